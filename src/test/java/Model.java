import java.util.ArrayDeque;
import java.util.ArrayList;
import java.util.Arrays;
import java.util.Comparator;
import java.util.HashSet;
import java.util.List;
import java.util.Set;
import java.util.TreeMap;

/**
 * The document a second time, in the plainest way and with none of the program's own ideas: points in lists, search
 * where the program computes, nothing written out. Tests compare the program with it.
 */
public final class Model {
    static final int NONE = -1, UNKNOWN = -1000001, OUTSIDE = -1000002, NOT = -1000003, FULL = -1000004;

    /** A map of pairs. */
    static final class Pairs {
        final int n;
        final int[][] l, r;

        Pairs(int n) {
            this.n = n;
            l = new int[n][n];
            r = new int[n][n];
        }

        void set(int x, int y, int left, int right) {
            l[x][y] = left;
            r[x][y] = right;
        }

        boolean same(Pairs other) {
            return n == other.n && Arrays.deepEquals(l, other.l) && Arrays.deepEquals(r, other.r);
        }
    }

    private static final TreeMap<Integer, List<Pairs>> LISTS = new TreeMap<>();

    private final Pairs[] places = new Pairs[4];
    private final StringBuilder[] braids = {new StringBuilder(), new StringBuilder()};

    // ---- numbers

    private static int code(int... numbers) {
        int code = 0;
        int weight = 1;
        for (int number : numbers) {
            code += weight * number;
            weight *= 8;
        }
        return code;
    }

    private static int code(List<Integer> numbers) {
        return code(numbers.stream().mapToInt(Integer::intValue).toArray());
    }

    /** The numbers below n of a code, null if it is none. */
    private static int[] numbers(int code, int length, int n) {
        int[] numbers = new int[length];
        int rest = code;
        for (int i = 0; i < length; i++) {
            numbers[i] = Math.floorMod(rest, 8);
            rest = Math.floorDiv(rest, 8);
            if (numbers[i] >= n) {
                return null;
            }
        }
        return rest == 0 ? numbers : null;
    }

    private static int[] permutation(int code, int n) {
        int[] f = numbers(code, n, n);
        return f != null && Arrays.stream(f).distinct().count() == n ? f : null;
    }

    /** All sequences of numbers below n, in lexicographic order. */
    static List<List<Integer>> sequences(int length, int n) {
        List<List<Integer>> result = new ArrayList<>();
        if (length == 0) {
            result.add(new ArrayList<>());
            return result;
        }
        for (List<Integer> start : sequences(length - 1, n)) {
            for (int x = 0; x < n; x++) {
                List<Integer> longer = new ArrayList<>(start);
                longer.add(x);
                result.add(longer);
            }
        }
        return result;
    }

    static List<int[]> permutations(int n) {
        List<int[]> result = new ArrayList<>();
        permutations(new int[n], 0, 0, result);
        return result;
    }

    private static void permutations(int[] f, int known, int used, List<int[]> result) {
        if (known == f.length) {
            result.add(f.clone());
            return;
        }
        for (int x = 0; x < f.length; x++) {
            if ((used & 1 << x) == 0) {
                f[known] = x;
                permutations(f, known + 1, used | 1 << x, result);
            }
        }
    }

    // ---- errors

    private boolean noMap(int map) {
        return noPlace(map) || places[map] == null;
    }

    private static boolean noPlace(int place) {
        return place < 0 || place > 3;
    }

    private boolean noPoint(int map, int x) {
        return x < 0 || x >= places[map].n;
    }

    private int made(int to, Pairs map) {
        places[to] = map;
        return map.n;
    }

    // ---- maps made

    public int flip(int to, int n) {
        if (noPlace(to)) {
            return UNKNOWN;
        }
        if (n < 1 || n > 6) {
            return OUTSIDE;
        }
        Pairs map = new Pairs(n);
        for (List<Integer> p : sequences(2, n)) {
            map.set(p.get(0), p.get(1), p.get(1), p.get(0));
        }
        return made(to, map);
    }

    public int twist(int to, int n, int f, int g) {
        if (noPlace(to)) {
            return UNKNOWN;
        }
        if (n < 1 || n > 6 || permutation(f, n) == null || permutation(g, n) == null) {
            return OUTSIDE;
        }
        Pairs map = new Pairs(n);
        for (List<Integer> p : sequences(2, n)) {
            map.set(p.get(0), p.get(1), permutation(f, n)[p.get(1)], permutation(g, n)[p.get(0)]);
        }
        return made(to, map);
    }

    private static int times(int kind, int n, int x, int y) {
        if (kind < 2) {
            return kind == 0 ? (x + y) % n : x ^ y;
        }
        int sign = x / 3 == 0 ? 1 : -1;
        return Math.floorMod(x % 3 + sign * (y % 3), 3) + 3 * ((x / 3 + y / 3) % 2);
    }

    public int group(int to, int kind, int n) {
        if (noPlace(to)) {
            return UNKNOWN;
        }
        if (!(kind == 0 && n >= 1 && n <= 6 || kind == 1 && n == 4 || kind == 2 && n == 6)) {
            return OUTSIDE;
        }
        Pairs map = new Pairs(n);
        for (List<Integer> p : sequences(3, n)) {
            if (times(kind, n, p.get(0), p.get(2)) == 0) {
                int both = times(kind, n, p.get(0), p.get(1));
                map.set(p.get(0), p.get(1), times(kind, n, both, p.get(2)), p.get(0));
            }
        }
        return made(to, map);
    }

    private static boolean coprime(int a, int n) {
        return a == 0 ? n == 1 : coprime(n % a, a);
    }

    private static boolean units(int[] u, int n) {
        return u != null && Arrays.stream(u).allMatch(a -> a >= 1 && coprime(a, n));
    }

    private static boolean brace(int[] u, int n) {
        return sequences(2, n).stream().allMatch(p ->
            u[(p.get(0) + u[p.get(0)] * p.get(1)) % n] == u[p.get(0)] * u[p.get(1)] % n);
    }

    public int brace(int to, int n, int u) {
        if (noPlace(to)) {
            return UNKNOWN;
        }
        if (n < 2 || n > 6 || !units(numbers(u, n, n), n)) {
            return OUTSIDE;
        }
        int[] unit = numbers(u, n, n);
        if (!brace(unit, n)) {
            return NOT;
        }
        Pairs map = new Pairs(n);
        for (List<Integer> p : sequences(3, n)) {
            int left = unit[p.get(0)] * p.get(1) % n;
            if (unit[left] * p.get(2) % n == p.get(0)) {
                map.set(p.get(0), p.get(1), left, p.get(2));
            }
        }
        return made(to, map);
    }

    private static final TreeMap<Integer, List<Integer>> BRACES = new TreeMap<>();

    public int braces(int n, int i) {
        if (n < 2 || n > 6 || i < -1) {
            return OUTSIDE;
        }
        List<Integer> codes = BRACES.computeIfAbsent(n, Model::allBraces);
        return i == -1 ? codes.size() : i < codes.size() ? codes.get(i) : NONE;
    }

    private static List<Integer> allBraces(int n) {
        List<Integer> codes = new ArrayList<>();
        for (int code = 0; code < 1 << 3 * n; code++) {
            int[] u = numbers(code, n, n);
            if (units(u, n) && brace(u, n)) {
                codes.add(code);
            }
        }
        return codes;
    }

    public int put(int map, int x, int y, int left, int right) {
        if (noMap(map) || noPoint(map, x) || noPoint(map, y) || noPoint(map, left) || noPoint(map, right)) {
            return UNKNOWN;
        }
        Pairs m = places[map];
        int before = code(m.l[x][y], m.r[x][y]);
        m.set(x, y, left, right);
        return before;
    }

    private static int[] classes(Pairs m) {
        int[] number = new int[m.n];
        int next = 0;
        for (int x = 0; x < m.n; x++) {
            number[x] = -1;
            for (int y = 0; y < x; y++) {
                boolean alike = true;
                for (int z = 0; z < m.n; z++) {
                    alike &= m.l[x][z] == m.l[y][z] && m.r[z][x] == m.r[z][y];
                }
                if (alike) {
                    number[x] = number[y];
                }
            }
            if (number[x] < 0) {
                number[x] = next++;
            }
        }
        return number;
    }

    private static Pairs retraction(Pairs m) {
        int[] number = classes(m);
        Pairs result = new Pairs(Arrays.stream(number).max().getAsInt() + 1);
        // From the greatest points to the smallest, so that the smallest ones of the classes decide.
        for (int x = m.n - 1; x >= 0; x--) {
            for (int y = m.n - 1; y >= 0; y--) {
                result.set(number[x], number[y], number[m.l[x][y]], number[m.r[x][y]]);
            }
        }
        return result;
    }

    public int retract(int map, int to) {
        if (noMap(map) || noPlace(to)) {
            return UNKNOWN;
        }
        return made(to, retraction(places[map]));
    }

    public int unite(int a, int b, int to) {
        if (noMap(a) || noMap(b) || noPlace(to)) {
            return UNKNOWN;
        }
        Pairs f = places[a], s = places[b];
        if (f.n + s.n > 6) {
            return FULL;
        }
        Pairs map = new Pairs(f.n + s.n);
        for (List<Integer> p : sequences(2, map.n)) {
            int x = p.get(0), y = p.get(1), n = f.n;
            if (x < n && y < n) {
                map.set(x, y, f.l[x][y], f.r[x][y]);
            } else if (x >= n && y >= n) {
                map.set(x, y, n + s.l[x - n][y - n], n + s.r[x - n][y - n]);
            } else {
                map.set(x, y, y, x);
            }
        }
        return made(to, map);
    }

    public int pair(int a, int b, int to) {
        if (noMap(a) || noMap(b) || noPlace(to)) {
            return UNKNOWN;
        }
        Pairs f = places[a], s = places[b];
        if (f.n * s.n > 6) {
            return FULL;
        }
        Pairs map = new Pairs(f.n * s.n);
        int m = s.n;
        for (List<Integer> p : sequences(2, map.n)) {
            int x = p.get(0), y = p.get(1);
            map.set(x, y, f.l[x / m][y / m] * m + s.l[x % m][y % m], f.r[x / m][y / m] * m + s.r[x % m][y % m]);
        }
        return made(to, map);
    }

    private static boolean bijective(Pairs m) {
        Set<Integer> images = new HashSet<>();
        sequences(2, m.n).forEach(p -> images.add(code(m.l[p.get(0)][p.get(1)], m.r[p.get(0)][p.get(1)])));
        return images.size() == m.n * m.n;
    }

    private static Pairs inverse(Pairs m) {
        Pairs result = new Pairs(m.n);
        sequences(2, m.n).forEach(p ->
            result.set(m.l[p.get(0)][p.get(1)], m.r[p.get(0)][p.get(1)], p.get(0), p.get(1)));
        return result;
    }

    public int invert(int map, int to) {
        if (noMap(map) || noPlace(to)) {
            return UNKNOWN;
        }
        return bijective(places[map]) ? made(to, inverse(places[map])) : NOT;
    }

    public int mirror(int map, int to) {
        if (noMap(map) || noPlace(to)) {
            return UNKNOWN;
        }
        Pairs m = places[map];
        Pairs result = new Pairs(m.n);
        sequences(2, m.n).forEach(p ->
            result.set(p.get(0), p.get(1), m.r[p.get(1)][p.get(0)], m.l[p.get(1)][p.get(0)]));
        return made(to, result);
    }

    private static Pairs renamed(Pairs m, int[] f) {
        Pairs result = new Pairs(m.n);
        sequences(2, m.n).forEach(p ->
            result.set(f[p.get(0)], f[p.get(1)], f[m.l[p.get(0)][p.get(1)]], f[m.r[p.get(0)][p.get(1)]]));
        return result;
    }

    public int rename(int map, int f, int to) {
        if (noMap(map) || noPlace(to)) {
            return UNKNOWN;
        }
        int[] p = permutation(f, places[map].n);
        return p == null ? OUTSIDE : made(to, renamed(places[map], p));
    }

    public int drop(int map) {
        if (noMap(map)) {
            return UNKNOWN;
        }
        int n = places[map].n;
        places[map] = null;
        return n;
    }

    // ---- maps asked

    public int cell(int map, int x, int y, int what) {
        if (noMap(map) || noPoint(map, x) || noPoint(map, y)) {
            return UNKNOWN;
        }
        return what == 0 ? places[map].l[x][y] : what == 1 ? places[map].r[x][y] : OUTSIDE;
    }

    private static int[] applied(Pairs m, int[] tuple, int position) {
        int[] result = tuple.clone();
        result[position] = m.l[tuple[position]][tuple[position + 1]];
        result[position + 1] = m.r[tuple[position]][tuple[position + 1]];
        return result;
    }

    private static List<Integer> broken(Pairs m) {
        List<Integer> codes = new ArrayList<>();
        for (List<Integer> p : sequences(3, m.n)) {
            int[] t = {p.get(0), p.get(1), p.get(2)};
            int[] a = applied(m, applied(m, applied(m, t, 0), 1), 0);
            int[] b = applied(m, applied(m, applied(m, t, 1), 0), 1);
            if (!Arrays.equals(a, b)) {
                codes.add(code(t));
            }
        }
        return codes;
    }

    private static boolean leftNondegenerate(Pairs m) {
        return Arrays.stream(m.l).allMatch(row -> Arrays.stream(row).distinct().count() == m.n);
    }

    private static boolean rightNondegenerate(Pairs m) {
        for (int y = 0; y < m.n; y++) {
            Set<Integer> images = new HashSet<>();
            for (int x = 0; x < m.n; x++) {
                images.add(m.r[x][y]);
            }
            if (images.size() < m.n) {
                return false;
            }
        }
        return true;
    }

    private static int period(Pairs m) {
        if (!bijective(m)) {
            return NONE;
        }
        List<List<Integer>> pairs = sequences(2, m.n);
        int[][] now = pairs.stream().map(p -> new int[] {p.get(0), p.get(1)}).toArray(int[][]::new);
        for (int k = 1; ; k++) {
            boolean back = true;
            for (int i = 0; i < now.length; i++) {
                now[i] = applied(m, now[i], 0);
                back &= now[i][0] == pairs.get(i).get(0) && now[i][1] == pairs.get(i).get(1);
            }
            if (back) {
                return k;
            }
        }
    }

    private static boolean involutive(Pairs m) {
        int period = period(m);
        return period == 1 || period == 2;
    }

    private static boolean squareFree(Pairs m) {
        for (int x = 0; x < m.n; x++) {
            if (m.l[x][x] != x || m.r[x][x] != x) {
                return false;
            }
        }
        return true;
    }

    private static int orbit(Pairs m, int point) {
        int[] label = new int[m.n];
        for (int x = 0; x < m.n; x++) {
            label[x] = x;
        }
        for (List<Integer> p : sequences(2, m.n)) {
            int x = p.get(0), y = p.get(1);
            relabel(label, y, m.l[x][y]);
            relabel(label, y, m.r[y][x]);
        }
        int set = 0;
        for (int x = 0; x < m.n; x++) {
            set |= label[x] == label[point] ? 1 << x : 0;
        }
        return set;
    }

    private static void relabel(int[] label, int x, int y) {
        int old = label[x], now = label[y];
        for (int z = 0; z < label.length; z++) {
            label[z] = label[z] == old ? now : label[z];
        }
    }

    private static int orbits(Pairs m) {
        Set<Integer> orbits = new HashSet<>();
        for (int x = 0; x < m.n; x++) {
            orbits.add(orbit(m, x));
        }
        return orbits.size();
    }

    private static int level(Pairs m) {
        if (m.n == 1) {
            return 0;
        }
        Pairs smaller = retraction(m);
        if (smaller.n == m.n) {
            return NONE;
        }
        int rest = level(smaller);
        return rest == NONE ? NONE : rest + 1;
    }

    private static int groupOrder(Pairs m) {
        if (!leftNondegenerate(m)) {
            return NONE;
        }
        Set<List<Integer>> known = new HashSet<>();
        ArrayDeque<List<Integer>> open = new ArrayDeque<>();
        List<Integer> identity = new ArrayList<>();
        for (int x = 0; x < m.n; x++) {
            identity.add(x);
        }
        known.add(identity);
        open.add(identity);
        while (!open.isEmpty()) {
            List<Integer> element = open.remove();
            for (int[] row : m.l) {
                List<Integer> next = element.stream().map(y -> row[y]).toList();
                if (known.add(next)) {
                    open.add(next);
                }
            }
        }
        return known.size();
    }

    private static List<Integer> isomorphisms(Pairs a, Pairs b) {
        if (a.n != b.n) {
            return List.of();
        }
        return permutations(a.n).stream().filter(f -> renamed(a, f).same(b)).map(Model::code).toList();
    }

    private static boolean closed(Pairs m, int set) {
        return sequences(2, m.n).stream().allMatch(p -> (set >> p.get(0) & set >> p.get(1) & 1) == 0
            || (set >> m.l[p.get(0)][p.get(1)] & set >> m.r[p.get(0)][p.get(1)] & 1) == 1);
    }

    private static int closedSets(Pairs m) {
        int closed = 0;
        for (int set = 0; set < 1 << m.n; set++) {
            closed += closed(m, set) ? 1 : 0;
        }
        return closed;
    }

    private static int listIndex(Pairs m) {
        if (m.n <= 4) {
            List<Pairs> list = list(m.n);
            for (int i = 0; i < list.size(); i++) {
                if (!isomorphisms(m, list.get(i)).isEmpty()) {
                    return i;
                }
            }
        }
        return NONE;
    }

    private static int yes(boolean holds) {
        return holds ? 1 : 0;
    }

    public int whole(int map, int what) {
        if (noMap(map)) {
            return UNKNOWN;
        }
        Pairs m = places[map];
        return switch (what) {
            case 0 -> m.n;
            case 1 -> yes(broken(m).isEmpty());
            case 2 -> broken(m).size();
            case 3 -> yes(bijective(m));
            case 4 -> yes(involutive(m));
            case 5 -> yes(leftNondegenerate(m));
            case 6 -> yes(rightNondegenerate(m));
            case 7 -> yes(squareFree(m));
            case 8 -> orbits(m);
            case 9 -> level(m);
            case 10 -> groupOrder(m);
            case 11 -> isomorphisms(m, m).size();
            case 12 -> period(m);
            case 13 -> closedSets(m);
            case 14 -> listIndex(m);
            default -> OUTSIDE;
        };
    }

    public int fails(int map, int i) {
        if (noMap(map)) {
            return UNKNOWN;
        }
        if (i < 0) {
            return OUTSIDE;
        }
        List<Integer> broken = broken(places[map]);
        return i < broken.size() ? broken.get(i) : NONE;
    }

    public int orbit(int map, int x) {
        return noMap(map) || noPoint(map, x) ? UNKNOWN : orbit(places[map], x);
    }

    public int shut(int map, int set) {
        if (noMap(map)) {
            return UNKNOWN;
        }
        if (set < 0 || set >= 1 << places[map].n) {
            return OUTSIDE;
        }
        int best = (1 << places[map].n) - 1;
        for (int other = 0; other < 1 << places[map].n; other++) {
            if ((other & set) == set && closed(places[map], other) && Integer.bitCount(other) < Integer.bitCount(best)) {
                best = other;
            }
        }
        return best;
    }

    public int alike(int map, int x) {
        return noMap(map) || noPoint(map, x) ? UNKNOWN : classes(places[map])[x];
    }

    public int power(int map, int x, int y, int k) {
        if (noMap(map) || noPoint(map, x) || noPoint(map, y)) {
            return UNKNOWN;
        }
        if (k < 0 || k > 1000) {
            return OUTSIDE;
        }
        int[] pair = {x, y};
        for (int i = 0; i < k; i++) {
            pair = applied(places[map], pair, 0);
        }
        return code(pair);
    }

    public int like(int a, int b, int i) {
        if (noMap(a) || noMap(b)) {
            return UNKNOWN;
        }
        if (i < -1) {
            return OUTSIDE;
        }
        List<Integer> found = isomorphisms(places[a], places[b]);
        return i == -1 ? found.size() : i < found.size() ? found.get(i) : NONE;
    }

    // ---- words

    /** Each word with its class, the classes as lists of words in lexicographic order. */
    private static List<List<List<Integer>>> wordClasses(Pairs m, int k) {
        TreeMap<List<Integer>, Set<List<Integer>>> beside = new TreeMap<>(lexicographic());
        List<List<Integer>> words = sequences(k, m.n);
        words.forEach(w -> beside.put(w, new HashSet<>()));
        for (List<Integer> word : words) {
            for (int p = 0; p + 1 < k; p++) {
                int[] w = applied(m, word.stream().mapToInt(Integer::intValue).toArray(), p);
                List<Integer> next = Arrays.stream(w).boxed().toList();
                beside.get(word).add(next);
                beside.get(next).add(word);
            }
        }
        List<List<List<Integer>>> classes = new ArrayList<>();
        Set<List<Integer>> known = new HashSet<>();
        for (List<Integer> word : words) {
            if (known.add(word)) {
                List<List<Integer>> members = new ArrayList<>(List.of(word));
                for (int i = 0; i < members.size(); i++) {
                    for (List<Integer> next : beside.get(members.get(i))) {
                        if (known.add(next)) {
                            members.add(next);
                        }
                    }
                }
                members.sort(lexicographic());
                classes.add(members);
            }
        }
        return classes;
    }

    private static Comparator<List<Integer>> lexicographic() {
        return (a, b) -> {
            for (int i = 0; i < a.size(); i++) {
                if (!a.get(i).equals(b.get(i))) {
                    return a.get(i) - b.get(i);
                }
            }
            return 0;
        };
    }

    public int words(int map, int k) {
        return noMap(map) ? UNKNOWN : k < 1 || k > 4 ? OUTSIDE : wordClasses(places[map], k).size();
    }

    public int least(int map, int k, int word) {
        if (noMap(map)) {
            return UNKNOWN;
        }
        if (k < 1 || k > 4 || numbers(word, k, places[map].n) == null) {
            return OUTSIDE;
        }
        List<Integer> letters = Arrays.stream(numbers(word, k, places[map].n)).boxed().toList();
        for (List<List<Integer>> members : wordClasses(places[map], k)) {
            if (members.contains(letters)) {
                return code(members.get(0));
            }
        }
        throw new IllegalStateException("a word without a class");
    }

    // ---- braids

    private static boolean noBraid(int braid) {
        return braid != 0 && braid != 1;
    }

    public int write(int braid, int letter) {
        if (noBraid(braid)) {
            return UNKNOWN;
        }
        if (letter < 0 || letter > 127 || "abcABC".indexOf(letter) < 0) {
            return OUTSIDE;
        }
        if (braids[braid].length() == 24) {
            return FULL;
        }
        return braids[braid].append((char) letter).length();
    }

    public int erase(int braid) {
        if (noBraid(braid)) {
            return UNKNOWN;
        }
        int before = braids[braid].length();
        braids[braid].setLength(0);
        return before;
    }

    private boolean fits(int map, int braid, int s) {
        String letters = braids[braid].toString();
        String allowed = "ab".substring(0, 1) + (s > 2 ? "b" : "") + (s > 3 ? "c" : "");
        allowed += bijective(places[map]) ? allowed.toUpperCase() : "";
        for (char letter : letters.toCharArray()) {
            if (allowed.indexOf(letter) < 0) {
                return false;
            }
        }
        return true;
    }

    private int[] result(int map, int braid, int[] tuple) {
        int[] now = tuple;
        Pairs back = bijective(places[map]) ? inverse(places[map]) : null;
        for (char letter : braids[braid].toString().toCharArray()) {
            Pairs m = Character.isUpperCase(letter) ? back : places[map];
            now = applied(m, now, Character.toLowerCase(letter) - 'a');
        }
        return now;
    }

    private static List<int[]> tuples(int s, int n) {
        return sequences(s, n).stream().map(t -> t.stream().mapToInt(Integer::intValue).toArray()).toList();
    }

    public int through(int map, int braid, int s, int tuple) {
        if (noMap(map) || noBraid(braid)) {
            return UNKNOWN;
        }
        if (s < 2 || s > 4 || numbers(tuple, s, places[map].n) == null) {
            return OUTSIDE;
        }
        return fits(map, braid, s) ? code(result(map, braid, numbers(tuple, s, places[map].n))) : NOT;
    }

    public int stays(int map, int braid, int s) {
        if (noMap(map) || noBraid(braid)) {
            return UNKNOWN;
        }
        if (s < 2 || s > 4) {
            return OUTSIDE;
        }
        if (!fits(map, braid, s)) {
            return NOT;
        }
        return (int) tuples(s, places[map].n).stream().filter(t -> Arrays.equals(t, result(map, braid, t))).count();
    }

    public int rounds(int map, int braid, int s) {
        if (noMap(map) || noBraid(braid)) {
            return UNKNOWN;
        }
        if (s < 2 || s > 4) {
            return OUTSIDE;
        }
        if (!fits(map, braid, s)) {
            return NOT;
        }
        List<int[]> start = tuples(s, places[map].n);
        TreeMap<Integer, int[]> step = new TreeMap<>();
        start.forEach(t -> step.put(code(t), result(map, braid, t)));
        List<int[]> now = start;
        for (int k = 1; k <= 60; k++) {
            now = now.stream().map(t -> step.get(code(t))).toList();
            if (Arrays.deepEquals(now.toArray(), start.toArray())) {
                return k;
            }
        }
        return NONE;
    }

    public int part(int map, int s) {
        if (noMap(map)) {
            return UNKNOWN;
        }
        if (s < 2 || s > 4) {
            return OUTSIDE;
        }
        if (!fits(map, 0, s) || !fits(map, 1, s)) {
            return NOT;
        }
        for (int[] t : tuples(s, places[map].n)) {
            if (!Arrays.equals(result(map, 0, t), result(map, 1, t))) {
                return code(t);
            }
        }
        return NONE;
    }

    // ---- lists

    /** The list for n points, found by trying every choice of n permutations for the rows of L. */
    static List<Pairs> list(int n) {
        return LISTS.computeIfAbsent(n, Model::findList);
    }

    private static List<Pairs> findList(int n) {
        TreeMap<List<Integer>, Pairs> found = new TreeMap<>(lexicographic());
        List<int[]> rows = permutations(n);
        for (List<Integer> choice : sequences(n, rows.size())) {
            Pairs map = new Pairs(n);
            for (int x = 0; x < n; x++) {
                map.l[x] = rows.get(choice.get(x)).clone();
            }
            for (int x = 0; x < n; x++) {
                for (int y = 0; y < n; y++) {
                    // Applying r twice must lead back to x, y: L(L(x, y), R(x, y)) = x leaves one R(x, y).
                    for (int c = 0; c < n; c++) {
                        if (map.l[map.l[x][y]][c] == x) {
                            map.r[x][y] = c;
                        }
                    }
                }
            }
            if (quicklySolution(map) && broken(map).isEmpty() && involutive(map)) {
                Pairs best = permutations(n).stream().map(f -> renamed(map, f))
                    .min((a, b) -> lexicographic().compare(rowsOf(a), rowsOf(b))).get();
                found.put(rowsOf(best), best);
            }
        }
        return new ArrayList<>(found.values());
    }

    /** Saves time: looks for a broken triple without making lists. */
    private static boolean quicklySolution(Pairs m) {
        int[][] l = m.l, r = m.r;
        for (int x = 0; x < m.n; x++) {
            for (int y = 0; y < m.n; y++) {
                for (int z = 0; z < m.n; z++) {
                    if (l[x][l[y][z]] != l[l[x][y]][l[r[x][y]][z]]) {
                        return false;
                    }
                }
            }
        }
        return true;
    }

    private static List<Integer> rowsOf(Pairs m) {
        return Arrays.stream(m.l).flatMap(row -> Arrays.stream(row).boxed()).toList();
    }

    public int listed(int n) {
        return n < 1 || n > 4 ? OUTSIDE : list(n).size();
    }

    public int take(int n, int i, int to) {
        if (noPlace(to)) {
            return UNKNOWN;
        }
        if (n < 1 || n > 4 || i < 0) {
            return OUTSIDE;
        }
        if (i >= list(n).size()) {
            return NONE;
        }
        int[] identity = permutations(n).get(0);
        return made(to, renamed(list(n).get(i), identity));
    }

    public int count(int what) {
        return switch (what) {
            case 0 -> (int) Arrays.stream(places).filter(m -> m != null).count();
            case 1 -> Arrays.stream(places).filter(m -> m != null).mapToInt(m -> m.n).sum();
            case 2, 3 -> braids[what - 2].length();
            default -> OUTSIDE;
        };
    }
}
