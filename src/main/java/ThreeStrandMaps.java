import java.util.Arrays;

/** A laboratory for set-theoretic solutions of the Yang-Baxter equation (braid equation) on small sets. */
public final class ThreeStrandMaps {
    public static final int NONE = -1, UNKNOWN = -1000001, OUTSIDE = -1000002, NOT = -1000003, FULL = -1000004;

    private static final int PLACES = 4;
    private static final int BRAIDS = 2;
    private static final int MOST_POINTS = 6;
    private static final int MOST_STEPS = 1000;

    private final PairMap[] places = new PairMap[PLACES];
    private final Braid[] braids = new Braid[BRAIDS];
    // Stand for what is not there, so that no reference is ever null. Nothing changes them.
    private final PairMap noMap = new PairMap();
    private final Braid noBraid = new Braid();
    // A new map is finished here first, since its place may hold a map that it is made from.
    private final PairMap made = new PairMap();
    private final AlikeClasses classes = new AlikeClasses();
    private final Renamings renamings = new Renamings();
    private final RowGroup rowGroup = new RowGroup();
    private final WordClasses wordClasses = new WordClasses();
    private final BraidAction action = new BraidAction();

    public ThreeStrandMaps() {
        for (int i = 0; i < PLACES; i++) {
            places[i] = new PairMap();
        }
        for (int i = 0; i < BRAIDS; i++) {
            braids[i] = new Braid();
        }
    }

    // ---- maps made

    public int flip(int to, int n) {
        if (!isPlace(to)) {
            return UNKNOWN;
        }
        if (!isWithin(n, 1, MOST_POINTS)) {
            return OUTSIDE;
        }
        made.becomeFlip(n);
        return keepMade(to);
    }

    public int twist(int to, int n, int f, int g) {
        if (!isPlace(to)) {
            return UNKNOWN;
        }
        if (!isWithin(n, 1, MOST_POINTS) || !Codes.isPermutation(f, n) || !Codes.isPermutation(g, n)) {
            return OUTSIDE;
        }
        made.becomeTwist(n, f, g);
        return keepMade(to);
    }

    public int group(int to, int kind, int n) {
        if (!isPlace(to)) {
            return UNKNOWN;
        }
        if (!Algebras.isGroup(kind, n)) {
            return OUTSIDE;
        }
        Algebras.makeGroupMap(made, kind, n);
        return keepMade(to);
    }

    public int brace(int to, int n, int u) {
        if (!isPlace(to)) {
            return UNKNOWN;
        }
        if (!isWithin(n, 2, MOST_POINTS) || !Algebras.areUnits(n, u)) {
            return OUTSIDE;
        }
        if (!Algebras.isBrace(n, u)) {
            return NOT;
        }
        Algebras.makeBraceMap(made, n, u);
        return keepMade(to);
    }

    public int braces(int n, int i) {
        if (!isWithin(n, 2, MOST_POINTS) || i < -1) {
            return OUTSIDE;
        }
        return i == -1 ? Algebras.braceNumber(n) : Algebras.braceAt(n, i);
    }

    public int put(int map, int x, int y, int left, int right) {
        PairMap m = mapAt(map);
        if (!m.hasPoint(x) || !m.hasPoint(y) || !m.hasPoint(left) || !m.hasPoint(right)) {
            return UNKNOWN;
        }
        int before = Codes.turned(m.imageOf(Codes.pairOf(x, y)), 2);
        m.setImage(x, y, left, right);
        return before;
    }

    public int retract(int map, int to) {
        PairMap m = mapAt(map);
        if (m.isEmpty() || !isPlace(to)) {
            return UNKNOWN;
        }
        classes.find(m);
        classes.makeRetraction(made, m);
        return keepMade(to);
    }

    public int unite(int a, int b, int to) {
        PairMap first = mapAt(a);
        PairMap second = mapAt(b);
        if (first.isEmpty() || second.isEmpty() || !isPlace(to)) {
            return UNKNOWN;
        }
        if (first.points() + second.points() > MOST_POINTS) {
            return FULL;
        }
        made.becomeUnion(first, second);
        return keepMade(to);
    }

    public int pair(int a, int b, int to) {
        PairMap first = mapAt(a);
        PairMap second = mapAt(b);
        if (first.isEmpty() || second.isEmpty() || !isPlace(to)) {
            return UNKNOWN;
        }
        if (first.points() * second.points() > MOST_POINTS) {
            return FULL;
        }
        made.becomeProduct(first, second);
        return keepMade(to);
    }

    public int invert(int map, int to) {
        PairMap m = mapAt(map);
        if (m.isEmpty() || !isPlace(to)) {
            return UNKNOWN;
        }
        if (!Checks.isBijective(m)) {
            return NOT;
        }
        made.becomeInverse(m);
        return keepMade(to);
    }

    public int mirror(int map, int to) {
        PairMap m = mapAt(map);
        if (m.isEmpty() || !isPlace(to)) {
            return UNKNOWN;
        }
        made.becomeMirror(m);
        return keepMade(to);
    }

    public int rename(int map, int f, int to) {
        PairMap m = mapAt(map);
        if (m.isEmpty() || !isPlace(to)) {
            return UNKNOWN;
        }
        if (!Codes.isPermutation(f, m.points())) {
            return OUTSIDE;
        }
        made.becomeRenamed(m, f);
        return keepMade(to);
    }

    public int drop(int map) {
        PairMap m = mapAt(map);
        if (m.isEmpty()) {
            return UNKNOWN;
        }
        int before = m.points();
        m.resize(0);
        return before;
    }

    // ---- maps asked

    public int cell(int map, int x, int y, int what) {
        PairMap m = mapAt(map);
        if (!m.hasPoint(x) || !m.hasPoint(y)) {
            return UNKNOWN;
        }
        if (!isWithin(what, 0, 1)) {
            return OUTSIDE;
        }
        return what == 0 ? m.left(x, y) : m.right(x, y);
    }

    public int whole(int map, int what) {
        PairMap m = mapAt(map);
        if (m.isEmpty()) {
            return UNKNOWN;
        }
        switch (what) {
            case 0: return m.points();
            case 1: return oneIf(Checks.brokenTriples(m) == 0);
            case 2: return Checks.brokenTriples(m);
            case 3: return oneIf(Checks.isBijective(m));
            case 4: return oneIf(Checks.isInvolutive(m));
            case 5: return oneIf(Checks.isLeftNondegenerate(m));
            case 6: return oneIf(Checks.isRightNondegenerate(m));
            case 7: return oneIf(Checks.isSquareFree(m));
            case 8: return Checks.orbits(m);
            case 9: return classes.levelOf(m);
            case 10: return rowGroup.orderFor(m);
            case 11: return renamings.isomorphisms(m, m);
            case 12: return Checks.periodOf(m);
            case 13: return Checks.closedSets(m);
            case 14: return SolutionList.indexOf(m, renamings);
            default: return OUTSIDE;
        }
    }

    public int fails(int map, int i) {
        PairMap m = mapAt(map);
        if (m.isEmpty()) {
            return UNKNOWN;
        }
        if (i < 0) {
            return OUTSIDE;
        }
        int triple = Checks.brokenTripleAt(m, i);
        return triple == NONE ? NONE : Codes.turned(triple, 3);
    }

    public int orbit(int map, int x) {
        PairMap m = mapAt(map);
        if (!m.hasPoint(x)) {
            return UNKNOWN;
        }
        return Checks.orbitOf(m, x);
    }

    public int shut(int map, int set) {
        PairMap m = mapAt(map);
        if (m.isEmpty()) {
            return UNKNOWN;
        }
        if (set < 0 || set >= 1 << m.points()) {
            return OUTSIDE;
        }
        return Checks.closureOf(m, set);
    }

    public int alike(int map, int x) {
        PairMap m = mapAt(map);
        if (!m.hasPoint(x)) {
            return UNKNOWN;
        }
        classes.find(m);
        return classes.classOf(x);
    }

    public int power(int map, int x, int y, int k) {
        PairMap m = mapAt(map);
        if (!m.hasPoint(x) || !m.hasPoint(y)) {
            return UNKNOWN;
        }
        if (!isWithin(k, 0, MOST_STEPS)) {
            return OUTSIDE;
        }
        int pair = Codes.pairOf(x, y);
        for (int step = 0; step < k; step++) {
            pair = m.imageOf(pair);
        }
        return Codes.turned(pair, 2);
    }

    public int like(int a, int b, int i) {
        PairMap first = mapAt(a);
        PairMap second = mapAt(b);
        if (first.isEmpty() || second.isEmpty()) {
            return UNKNOWN;
        }
        if (i < -1) {
            return OUTSIDE;
        }
        return i == -1 ? renamings.isomorphisms(first, second) : renamings.isomorphismAt(first, second, i);
    }

    // ---- words

    public int words(int map, int k) {
        PairMap m = mapAt(map);
        if (m.isEmpty()) {
            return UNKNOWN;
        }
        if (!isWithin(k, 1, WordClasses.MOST_LETTERS)) {
            return OUTSIDE;
        }
        wordClasses.find(m, k);
        return wordClasses.number();
    }

    public int least(int map, int k, int word) {
        PairMap m = mapAt(map);
        if (m.isEmpty()) {
            return UNKNOWN;
        }
        if (!isWithin(k, 1, WordClasses.MOST_LETTERS) || !Codes.isCode(word, k, m.points())) {
            return OUTSIDE;
        }
        wordClasses.find(m, k);
        return Codes.turned(wordClasses.smallest(Codes.turned(word, k)), k);
    }

    // ---- braids

    public int write(int braid, int letter) {
        if (!isBraid(braid)) {
            return UNKNOWN;
        }
        if (!Braid.isLetter(letter)) {
            return OUTSIDE;
        }
        Braid strands = braidAt(braid);
        if (strands.isFull()) {
            return FULL;
        }
        strands.append(letter);
        return strands.length();
    }

    public int erase(int braid) {
        if (!isBraid(braid)) {
            return UNKNOWN;
        }
        Braid strands = braidAt(braid);
        int before = strands.length();
        strands.clear();
        return before;
    }

    public int through(int map, int braid, int s, int tuple) {
        PairMap m = mapAt(map);
        if (m.isEmpty() || !isBraid(braid)) {
            return UNKNOWN;
        }
        if (!isTupleLength(s) || !Codes.isCode(tuple, s, m.points())) {
            return OUTSIDE;
        }
        Braid strands = braidAt(braid);
        if (!BraidAction.isFit(m, strands, s)) {
            return NOT;
        }
        action.prepare(m);
        return Codes.turned(action.resultOf(strands, s, Codes.turned(tuple, s)), s);
    }

    public int stays(int map, int braid, int s) {
        int error = actionError(map, braid, s);
        if (error != 0) {
            return error;
        }
        action.prepare(mapAt(map));
        return action.fixedTuples(braidAt(braid), s);
    }

    public int rounds(int map, int braid, int s) {
        int error = actionError(map, braid, s);
        if (error != 0) {
            return error;
        }
        action.prepare(mapAt(map));
        return action.periodOf(braidAt(braid), s);
    }

    public int part(int map, int s) {
        PairMap m = mapAt(map);
        if (m.isEmpty()) {
            return UNKNOWN;
        }
        if (!isTupleLength(s)) {
            return OUTSIDE;
        }
        Braid first = braidAt(0);
        Braid second = braidAt(1);
        if (!BraidAction.isFit(m, first, s) || !BraidAction.isFit(m, second, s)) {
            return NOT;
        }
        action.prepare(m);
        int tuple = action.firstDifference(first, second, s);
        return tuple == NONE ? NONE : Codes.turned(tuple, s);
    }

    // ---- lists

    public int listed(int n) {
        return SolutionList.hasPoints(n) ? SolutionList.size(n) : OUTSIDE;
    }

    public int take(int n, int i, int to) {
        if (!isPlace(to)) {
            return UNKNOWN;
        }
        if (!SolutionList.hasPoints(n) || i < 0) {
            return OUTSIDE;
        }
        if (i >= SolutionList.size(n)) {
            return NONE;
        }
        SolutionList.makeMap(made, n, i);
        return keepMade(to);
    }

    public int count(int what) {
        switch (what) {
            case 0: return mapsHeld();
            case 1: return pointsHeld();
            case 2: return braidAt(0).length();
            case 3: return braidAt(1).length();
            default: return OUTSIDE;
        }
    }

    private static boolean isPlace(int place) {
        return isWithin(place, 0, PLACES - 1);
    }

    private static boolean isBraid(int braid) {
        return isWithin(braid, 0, BRAIDS - 1);
    }

    private static boolean isTupleLength(int s) {
        return isWithin(s, 2, BraidAction.MOST_STRANDS);
    }

    private static boolean isWithin(int value, int low, int high) {
        return value >= low && value <= high;
    }

    private static int oneIf(boolean holds) {
        return holds ? 1 : 0;
    }

    private PairMap mapAt(int place) {
        return isPlace(place) ? places[place] : noMap;
    }

    private Braid braidAt(int braid) {
        return isBraid(braid) ? braids[braid] : noBraid;
    }

    private int keepMade(int to) {
        if (!isPlace(to)) {
            return UNKNOWN;
        }
        places[to].copy(made);
        return made.points();
    }

    /** The error of a call that lets a braid act on all tuples, 0 if there is none. */
    private int actionError(int map, int braid, int s) {
        PairMap m = mapAt(map);
        if (m.isEmpty() || !isBraid(braid)) {
            return UNKNOWN;
        }
        if (!isTupleLength(s)) {
            return OUTSIDE;
        }
        return BraidAction.isFit(m, braidAt(braid), s) ? 0 : NOT;
    }

    private int mapsHeld() {
        int maps = 0;
        for (int i = 0; i < PLACES; i++) {
            maps += oneIf(!mapAt(i).isEmpty());
        }
        return maps;
    }

    private int pointsHeld() {
        int points = 0;
        for (int i = 0; i < PLACES; i++) {
            points += mapAt(i).points();
        }
        return points;
    }

    /**
     * Several numbers from 0 to 7 in one. A code, as the document has it, holds the first one in its lowest bits.
     * A turned code holds it in its highest bits: turned codes of one length are ordered as the sequences are, which
     * is why pairs, triples, words and tuples are kept turned inside and become codes only in answers.
     */
    private static final class Codes {
        /** The permutation that leaves each of six points where it is; its low digits serve fewer points too. */
        static final int IDENTITY = 0543210;

        static int digit(int code, int index) {
            return (code >> 3 * index) & 7;
        }

        static int turned(int code, int length) {
            int result = 0;
            for (int i = 0; i < length; i++) {
                result = result << 3 | digit(code, i);
            }
            return result;
        }

        static int pairOf(int x, int y) {
            return x << 3 | y;
        }

        static boolean isCode(int code, int length, int points) {
            for (int i = 0; i < length; i++) {
                if (digit(code, i) >= points) {
                    return false;
                }
            }
            return code >>> 3 * length == 0;
        }

        static boolean isPermutation(int code, int points) {
            int reached = 0;
            for (int i = 0; i < points; i++) {
                reached |= 1 << digit(code, i);
            }
            return isCode(code, points, points) && reached == (1 << points) - 1;
        }

        /** How many sequences of that length there are. */
        static int sequences(int length, int points) {
            int result = 1;
            for (int i = 0; i < length; i++) {
                result *= points;
            }
            return result;
        }

        /** The turned code of the next sequence; the first one comes after the last one. */
        static int next(int turned, int length, int points) {
            int result = turned;
            for (int i = 0; i < length; i++) {
                if (digit(result, i) + 1 < points) {
                    return result + (1 << 3 * i);
                }
                result &= ~(7 << 3 * i);
            }
            return result;
        }

        /** The smallest number from 1 on that both divide, of two numbers from 1 on. */
        static int commonMultiple(int a, int b) {
            for (int k = 1; k < b; k++) {
                if (a * k % b == 0) {
                    return a * k;
                }
            }
            return a * b;
        }
    }

    /** A map r of pairs of points: the turned code of each pair leads to that of its image. */
    private static final class PairMap {
        // With the mask, no number whatever is outside the row.
        private static final int MASK = 63;

        private final int[] images = new int[MASK + 1];
        private int points = 0;

        int points() {
            return points;
        }

        boolean isEmpty() {
            return points == 0;
        }

        boolean hasPoint(int x) {
            return x >= 0 && x < points;
        }

        void resize(int newPoints) {
            points = newPoints;
        }

        int imageOf(int pair) {
            return images[pair & MASK];
        }

        int left(int x, int y) {
            return imageOf(Codes.pairOf(x, y)) >> 3;
        }

        int right(int x, int y) {
            return imageOf(Codes.pairOf(x, y)) & 7;
        }

        void setImage(int x, int y, int left, int right) {
            images[Codes.pairOf(x, y) & MASK] = Codes.pairOf(left, right);
        }

        void copy(PairMap other) {
            points = other.points;
            for (int pair = 0; pair <= MASK; pair++) {
                images[pair] = other.images[pair];
            }
        }

        /** A turned tuple with r applied to two adjacent points, the last of them standing at that shift. */
        int appliedAt(int tuple, int shift) {
            int pair = (tuple >> shift) & MASK;
            return tuple ^ ((pair ^ imageOf(pair)) << shift);
        }

        // A map becomes another one from maps that are not itself.

        void becomeTwist(int n, int f, int g) {
            points = n;
            for (int x = 0; x < n; x++) {
                for (int y = 0; y < n; y++) {
                    setImage(x, y, Codes.digit(f, y), Codes.digit(g, x));
                }
            }
        }

        void becomeFlip(int n) {
            becomeTwist(n, Codes.IDENTITY, Codes.IDENTITY);
        }

        void becomeUnion(PairMap first, PairMap second) {
            becomeFlip(first.points + second.points);
            setShifted(first, 0);
            setShifted(second, first.points);
        }

        private void setShifted(PairMap map, int by) {
            for (int x = 0; x < map.points; x++) {
                for (int y = 0; y < map.points; y++) {
                    setImage(by + x, by + y, by + map.left(x, y), by + map.right(x, y));
                }
            }
        }

        void becomeProduct(PairMap first, PairMap second) {
            points = first.points * second.points;
            for (int x = 0; x < first.points; x++) {
                for (int y = 0; y < first.points; y++) {
                    setBlock(first, second, x, y);
                }
            }
        }

        /** Sets the images of the pairs of points of a product whose first components are x and y. */
        private void setBlock(PairMap first, PairMap second, int x, int y) {
            int m = second.points;
            int left = first.left(x, y) * m;
            int right = first.right(x, y) * m;
            for (int z = 0; z < m; z++) {
                for (int w = 0; w < m; w++) {
                    setImage(x * m + z, y * m + w, left + second.left(z, w), right + second.right(z, w));
                }
            }
        }

        void becomeInverse(PairMap map) {
            points = map.points;
            for (int x = 0; x < points; x++) {
                for (int y = 0; y < points; y++) {
                    setImage(map.left(x, y), map.right(x, y), x, y);
                }
            }
        }

        void becomeMirror(PairMap map) {
            points = map.points;
            for (int x = 0; x < points; x++) {
                for (int y = 0; y < points; y++) {
                    setImage(x, y, map.right(y, x), map.left(y, x));
                }
            }
        }

        void becomeRenamed(PairMap map, int f) {
            points = map.points;
            for (int x = 0; x < points; x++) {
                for (int y = 0; y < points; y++) {
                    int left = Codes.digit(f, map.left(x, y));
                    int right = Codes.digit(f, map.right(x, y));
                    setImage(Codes.digit(f, x), Codes.digit(f, y), left, right);
                }
            }
        }
    }

    /**
     * The groups, by their kinds (0 the cyclic ones, 1 that of the bits, 2 that of the triangle), and the braces, each
     * given by the code of its numbers u(0) to u(n - 1).
     */
    private static final class Algebras {
        static boolean isGroup(int kind, int n) {
            switch (kind) {
                case 0: return n >= 1 && n <= MOST_POINTS;
                case 1: return n == 4;
                case 2: return n == 6;
                default: return false;
            }
        }

        static void makeGroupMap(PairMap made, int kind, int n) {
            made.resize(n);
            for (int x = 0; x < n; x++) {
                int back = inverse(kind, n, x);
                for (int y = 0; y < n; y++) {
                    made.setImage(x, y, product(kind, n, product(kind, n, x, y), back), x);
                }
            }
        }

        static int product(int kind, int n, int x, int y) {
            if (kind == 0) {
                return x + y < n ? x + y : x + y - n;
            }
            if (kind == 1) {
                return x ^ y;
            }
            int turn = x < 3 ? x % 3 + y % 3 : x % 3 - y % 3 + 3;
            int side = x / 3 + y / 3;
            return turn % 3 + 3 * (side % 2);
        }

        static int inverse(int kind, int n, int x) {
            for (int z = 0; z < n; z++) {
                if (product(kind, n, x, z) == 0) {
                    return z;
                }
            }
            return 0;
        }

        static boolean areUnits(int n, int u) {
            for (int a = 0; a < n; a++) {
                if (!isUnit(n, Codes.digit(u, a))) {
                    return false;
                }
            }
            return Codes.isCode(u, n, n);
        }

        static boolean isUnit(int n, int number) {
            for (int d = 2; d < n; d++) {
                if (n % d == 0 && number % d == 0) {
                    return false;
                }
            }
            return number > 0 && number < n;
        }

        static boolean isBrace(int n, int u) {
            for (int a = 0; a < n; a++) {
                for (int b = 0; b < n; b++) {
                    int left = Codes.digit(u, rest(a + Codes.digit(u, a) * b, n));
                    if (left != rest(Codes.digit(u, a) * Codes.digit(u, b), n)) {
                        return false;
                    }
                }
            }
            return true;
        }

        static void makeBraceMap(PairMap made, int n, int u) {
            made.resize(n);
            for (int a = 0; a < n; a++) {
                for (int b = 0; b < n; b++) {
                    int left = rest(Codes.digit(u, a) * b, n);
                    made.setImage(a, b, left, quotient(n, a, Codes.digit(u, left)));
                }
            }
        }

        /** The c for which unit * c leaves the rest a. */
        static int quotient(int n, int a, int unit) {
            for (int c = 0; c < n; c++) {
                if (rest(unit * c, n) == a) {
                    return c;
                }
            }
            return 0;
        }

        static int braceNumber(int n) {
            int found = 0;
            int u = allOnes(n);
            for (int left = candidates(n); left > 0; left--) {
                found += oneIf(isBrace(n, u));
                u = nextUnits(n, u);
            }
            return found;
        }

        static int braceAt(int n, int index) {
            int before = index;
            int u = allOnes(n);
            for (int left = candidates(n); left > 0; left--) {
                if (isBrace(n, u)) {
                    if (before == 0) {
                        return u;
                    }
                    before--;
                }
                u = nextUnits(n, u);
            }
            return NONE;
        }

        static int candidates(int n) {
            int units = 0;
            for (int number = 1; number < n; number++) {
                units += oneIf(isUnit(n, number));
            }
            return Codes.sequences(n, units);
        }

        static int allOnes(int n) {
            int u = 0;
            for (int a = 0; a < n; a++) {
                u |= 1 << 3 * a;
            }
            return u;
        }

        /** The next greater code of n units, or that of ones after the greatest. */
        static int nextUnits(int n, int u) {
            int result = u;
            for (int a = 0; a < n; a++) {
                int old = Codes.digit(result, a);
                int unit = unitAfter(n, old);
                result += (unit - old) << 3 * a;
                if (unit > old) {
                    return result;
                }
            }
            return result;
        }

        static int unitAfter(int n, int number) {
            for (int unit = number + 1; unit < n; unit++) {
                if (isUnit(n, unit)) {
                    return unit;
                }
            }
            return 1;
        }

        static int rest(int number, int n) {
            return n > 0 ? number % n : 0;
        }
    }

    /** The properties of a map that are found by going through its pairs or triples; a set of points is a bit mask. */
    private static final class Checks {
        static boolean isBijective(PairMap map) {
            int n = map.points();
            long reached = 0L;
            for (int x = 0; x < n; x++) {
                for (int y = 0; y < n; y++) {
                    reached |= 1L << map.imageOf(Codes.pairOf(x, y));
                }
            }
            return Long.bitCount(reached) == n * n;
        }

        static boolean isInvolutive(PairMap map) {
            int n = map.points();
            for (int x = 0; x < n; x++) {
                for (int y = 0; y < n; y++) {
                    int pair = Codes.pairOf(x, y);
                    if (map.imageOf(map.imageOf(pair)) != pair) {
                        return false;
                    }
                }
            }
            return true;
        }

        static boolean isLeftNondegenerate(PairMap map) {
            int n = map.points();
            for (int x = 0; x < n; x++) {
                int reached = 0;
                for (int y = 0; y < n; y++) {
                    reached |= 1 << map.left(x, y);
                }
                if (reached != (1 << n) - 1) {
                    return false;
                }
            }
            return true;
        }

        static boolean isRightNondegenerate(PairMap map) {
            int n = map.points();
            for (int y = 0; y < n; y++) {
                int reached = 0;
                for (int x = 0; x < n; x++) {
                    reached |= 1 << map.right(x, y);
                }
                if (reached != (1 << n) - 1) {
                    return false;
                }
            }
            return true;
        }

        static boolean isSquareFree(PairMap map) {
            for (int x = 0; x < map.points(); x++) {
                int pair = Codes.pairOf(x, x);
                if (map.imageOf(pair) != pair) {
                    return false;
                }
            }
            return true;
        }

        static boolean isBroken(PairMap map, int triple) {
            int firstWay = map.appliedAt(map.appliedAt(map.appliedAt(triple, 3), 0), 3);
            int lastWay = map.appliedAt(map.appliedAt(map.appliedAt(triple, 0), 3), 0);
            return firstWay != lastWay;
        }

        static int brokenTriples(PairMap map) {
            int n = map.points();
            int broken = 0;
            int triple = 0;
            for (int i = 0; i < n * n * n; i++) {
                broken += oneIf(isBroken(map, triple));
                triple = Codes.next(triple, 3, n);
            }
            return broken;
        }

        static int brokenTripleAt(PairMap map, int index) {
            int n = map.points();
            int before = index;
            int triple = 0;
            for (int i = 0; i < n * n * n; i++) {
                if (isBroken(map, triple)) {
                    if (before == 0) {
                        return triple;
                    }
                    before--;
                }
                triple = Codes.next(triple, 3, n);
            }
            return NONE;
        }

        static int periodOf(PairMap map) {
            if (!isBijective(map)) {
                return NONE;
            }
            int n = map.points();
            int period = 1;
            for (int x = 0; x < n; x++) {
                for (int y = 0; y < n; y++) {
                    period = Codes.commonMultiple(period, cycleLength(map, Codes.pairOf(x, y)));
                }
            }
            return period;
        }

        static int cycleLength(PairMap map, int pair) {
            int most = map.points() * map.points();
            int reached = map.imageOf(pair);
            int length = 1;
            while (length < most && reached != pair) {
                reached = map.imageOf(reached);
                length++;
            }
            return length;
        }

        static int orbitOf(PairMap map, int x) {
            int orbit = 1 << x;
            // Each pass adds a point until none is missing.
            for (int pass = 0; pass < map.points(); pass++) {
                orbit = withLinked(map, orbit);
            }
            return orbit;
        }

        static int withLinked(PairMap map, int set) {
            int n = map.points();
            int result = set;
            for (int x = 0; x < n; x++) {
                for (int y = 0; y < n; y++) {
                    result = joined(result, y, map.left(x, y));
                    result = joined(result, x, map.right(x, y));
                }
            }
            return result;
        }

        static int joined(int set, int x, int y) {
            int both = 1 << x | 1 << y;
            return (set & both) == 0 ? set : set | both;
        }

        static int orbits(PairMap map) {
            int orbits = 0;
            for (int x = 0; x < map.points(); x++) {
                int smaller = orbitOf(map, x) & ((1 << x) - 1);
                orbits += oneIf(smaller == 0);
            }
            return orbits;
        }

        static int closureOf(PairMap map, int set) {
            int result = set;
            // Each pass adds a point until none is missing.
            for (int pass = 0; pass < map.points(); pass++) {
                result = withImages(map, result);
            }
            return result;
        }

        static int withImages(PairMap map, int set) {
            int n = map.points();
            int result = set;
            for (int x = 0; x < n; x++) {
                for (int y = 0; y < n; y++) {
                    if (((set >> x) & (set >> y) & 1) != 0) {
                        result |= 1 << map.left(x, y) | 1 << map.right(x, y);
                    }
                }
            }
            return result;
        }

        static int closedSets(PairMap map) {
            int closed = 0;
            for (int set = 0; set < 1 << map.points(); set++) {
                closed += oneIf(withImages(map, set) == set);
            }
            return closed;
        }
    }

    /** The classes of points that are alike, as last found, and the retractions that come from them. */
    private static final class AlikeClasses {
        private static final int MASK = 7;

        private final int[] classes = new int[MASK + 1];
        private final int[] smallest = new int[MASK + 1];
        private int size = 0;
        private final PairMap current = new PairMap();
        private final PairMap smaller = new PairMap();

        int classOf(int x) {
            return classes[x & MASK];
        }

        int smallestOf(int number) {
            return smallest[number & MASK];
        }

        void find(PairMap map) {
            size = 0;
            for (int x = 0; x < map.points(); x++) {
                int twin = smallestTwin(map, x);
                if (twin == x) {
                    smallest[size & MASK] = x;
                    classes[x & MASK] = size;
                    size++;
                } else {
                    classes[x & MASK] = classOf(twin);
                }
            }
        }

        static int smallestTwin(PairMap map, int x) {
            for (int y = 0; y < x; y++) {
                if (areTwins(map, x, y)) {
                    return y;
                }
            }
            return x;
        }

        static boolean areTwins(PairMap map, int x, int y) {
            for (int z = 0; z < map.points(); z++) {
                if (map.left(x, z) != map.left(y, z) || map.right(z, x) != map.right(z, y)) {
                    return false;
                }
            }
            return true;
        }

        /** Makes the retraction of the map whose classes were found last; the two are not the same object. */
        void makeRetraction(PairMap made, PairMap map) {
            made.resize(size);
            for (int c = 0; c < size; c++) {
                for (int d = 0; d < size; d++) {
                    int x = smallestOf(c);
                    int y = smallestOf(d);
                    made.setImage(c, d, classOf(map.left(x, y)), classOf(map.right(x, y)));
                }
            }
        }

        int levelOf(PairMap map) {
            current.copy(map);
            // Each level takes a point at least.
            for (int level = 0; level < MOST_POINTS; level++) {
                if (current.points() == 1) {
                    return level;
                }
                find(current);
                if (size == current.points()) {
                    return NONE;
                }
                makeRetraction(smaller, current);
                current.copy(smaller);
            }
            return NONE;
        }
    }

    /** Goes through the permutations of the points in lexicographic order. */
    private static final class Renamings {
        private static final int MASK = 7;

        private final int[] images = new int[MASK + 1];

        int isomorphisms(PairMap first, PairMap second) {
            int n = first.points();
            if (n != second.points()) {
                return 0;
            }
            int found = 0;
            start();
            for (int left = permutations(n); left > 0; left--) {
                found += oneIf(isIsomorphism(first, second));
                step(n);
            }
            return found;
        }

        int isomorphismAt(PairMap first, PairMap second, int index) {
            int n = first.points();
            if (n != second.points()) {
                return NONE;
            }
            int before = index;
            start();
            for (int left = permutations(n); left > 0; left--) {
                if (isIsomorphism(first, second)) {
                    if (before == 0) {
                        return code(n);
                    }
                    before--;
                }
                step(n);
            }
            return NONE;
        }

        /** The smallest sequence of the L of a renamed map, four bits a number; there are up to four points. */
        long smallestRows(PairMap map) {
            int n = map.points();
            start();
            long smallest = renamedRows(map);
            for (int left = permutations(n); left > 0; left--) {
                smallest = Math.min(smallest, renamedRows(map));
                step(n);
            }
            return smallest;
        }

        private long renamedRows(PairMap map) {
            int n = map.points();
            long rows = 0L;
            for (int x = 0; x < n; x++) {
                for (int y = 0; y < n; y++) {
                    int index = imageOf(x) * n + imageOf(y);
                    rows |= (long) imageOf(map.left(x, y)) << SolutionList.shiftOf(index, n);
                }
            }
            return rows;
        }

        private boolean isIsomorphism(PairMap first, PairMap second) {
            int n = first.points();
            for (int x = 0; x < n; x++) {
                int newX = imageOf(x);
                for (int y = 0; y < n; y++) {
                    int pair = first.imageOf(Codes.pairOf(x, y));
                    int newPair = Codes.pairOf(imageOf(pair >> 3), imageOf(pair));
                    if (second.imageOf(Codes.pairOf(newX, imageOf(y))) != newPair) {
                        return false;
                    }
                }
            }
            return true;
        }

        private int imageOf(int x) {
            return images[x & MASK];
        }

        private int code(int n) {
            int code = 0;
            for (int x = 0; x < n; x++) {
                code |= imageOf(x) << 3 * x;
            }
            return code;
        }

        private static int permutations(int n) {
            int result = 1;
            for (int i = 2; i <= n; i++) {
                result *= i;
            }
            return result;
        }

        private void start() {
            for (int x = 0; x <= MASK; x++) {
                images[x] = x;
            }
        }

        private void step(int n) {
            int pivot = n - 2;
            while (pivot >= 0 && imageOf(pivot) > imageOf(pivot + 1)) {
                pivot--;
            }
            if (pivot < 0) {
                return;
            }
            int greater = n - 1;
            while (greater > pivot && imageOf(greater) < imageOf(pivot)) {
                greater--;
            }
            swap(pivot, greater);
            int high = n - 1;
            for (int low = pivot + 1; low < high; low++) {
                swap(low, high);
                high--;
            }
        }

        private void swap(int x, int y) {
            int image = imageOf(x);
            images[x & MASK] = imageOf(y);
            images[y & MASK] = image;
        }
    }

    /** The group that the permutations y -> L(x, y) generate; an element is the code of a permutation of six points. */
    private static final class RowGroup {
        private static final int MOST_ELEMENTS = 720;
        private static final int SEEN_MASK = 511;
        // The first five images tell the sixth one.
        private static final int FIVE_DIGITS = 077777;

        private final int[] elements = new int[MOST_ELEMENTS];
        private final long[] seen = new long[SEEN_MASK + 1];
        private int size = 0;

        int orderFor(PairMap map) {
            if (!Checks.isLeftNondegenerate(map)) {
                return NONE;
            }
            Arrays.fill(seen, 0L);
            size = 0;
            add(Codes.IDENTITY);
            for (int i = 0; i < MOST_ELEMENTS && i < size; i++) {
                for (int x = 0; x < map.points(); x++) {
                    add(followedBy(elements[i], map, x));
                }
            }
            return size;
        }

        private static int followedBy(int element, PairMap map, int x) {
            int n = map.points();
            int result = 0;
            for (int y = 0; y < MOST_POINTS; y++) {
                int image = Codes.digit(element, y);
                result |= (image < n ? map.left(x, image) : image) << 3 * y;
            }
            return result;
        }

        private void add(int element) {
            int known = element & FIVE_DIGITS;
            int index = (known >> 6) & SEEN_MASK;
            long bit = 1L << known;
            if ((seen[index] & bit) == 0L && size >= 0 && size < MOST_ELEMENTS) {
                seen[index] |= bit;
                elements[size] = element;
                size++;
            }
        }
    }

    /** The classes of equivalent words, as last found; a word is a turned code. */
    private static final class WordClasses {
        static final int MOST_LETTERS = 4;
        private static final int MASK = 4095;

        // Leads from each word to a smaller one of its class, and from the smallest one to itself.
        private final int[] smaller = new int[MASK + 1];
        private int size = 0;

        void find(PairMap map, int letters) {
            int n = map.points();
            size = Codes.sequences(letters, n);
            for (int word = 0; word <= MASK; word++) {
                smaller[word] = word;
            }
            for (int shift = 0; shift <= 3 * (letters - 2); shift += 3) {
                int word = 0;
                for (int i = Codes.sequences(letters, n); i > 0; i--) {
                    join(word, map.appliedAt(word, shift));
                    word = Codes.next(word, letters, n);
                }
            }
        }

        int number() {
            return size;
        }

        int smallest(int word) {
            int result = word & MASK;
            for (int step = 0; step < MASK && smallerOf(result) != result; step++) {
                // Shortens the way for the words that come later.
                smaller[result & MASK] = smallerOf(smallerOf(result));
                result = smallerOf(result);
            }
            return result;
        }

        private int smallerOf(int word) {
            return smaller[word & MASK];
        }

        private void join(int word, int other) {
            int first = smallest(word);
            int second = smallest(other);
            if (first != second) {
                smaller[Math.max(first, second) & MASK] = Math.min(first, second);
                size--;
            }
        }
    }

    /** A sequence of letters; each one is kept as the first position at which it acts, and whether it is a capital. */
    private static final class Braid {
        private static final int MOST_LETTERS = 24;
        private static final int POSITIONS = 3;

        private final int[] positions = new int[MOST_LETTERS];
        private final boolean[] capitals = new boolean[MOST_LETTERS];
        private int length = 0;

        static boolean isLetter(int letter) {
            return letter >= 'a' && letter < 'a' + POSITIONS || isCapital(letter);
        }

        static boolean isCapital(int letter) {
            return letter >= 'A' && letter < 'A' + POSITIONS;
        }

        int length() {
            return length;
        }

        int position(int index) {
            return hasIndex(index) ? positions[index] : 0;
        }

        boolean isCapitalAt(int index) {
            return hasIndex(index) && capitals[index];
        }

        private static boolean hasIndex(int index) {
            return index >= 0 && index < MOST_LETTERS;
        }

        boolean isFull() {
            return length >= MOST_LETTERS;
        }

        void append(int letter) {
            if (hasIndex(length)) {
                boolean capital = isCapital(letter);
                positions[length] = letter - (capital ? 'A' : 'a');
                capitals[length] = capital;
                length++;
            }
        }

        void clear() {
            length = 0;
        }

        boolean hasCapital() {
            for (int i = 0; i < length; i++) {
                if (isCapitalAt(i)) {
                    return true;
                }
            }
            return false;
        }

        /** How many points a tuple must have for all letters to act on it. */
        int strands() {
            int strands = 0;
            for (int i = 0; i < length; i++) {
                strands = Math.max(strands, position(i) + 2);
            }
            return strands;
        }
    }

    /** The action of braids on the tuples of the points of one map; a tuple is a turned code. */
    private static final class BraidAction {
        static final int MOST_STRANDS = 4;
        private static final int MOST_ROUNDS = 60;
        private static final int SEEN_MASK = 63;

        private final PairMap map = new PairMap();
        private final PairMap inverse = new PairMap();
        private final long[] seen = new long[SEEN_MASK + 1];

        static boolean isFit(PairMap map, Braid braid, int strands) {
            return braid.strands() <= strands && (!braid.hasCapital() || Checks.isBijective(map));
        }

        /** Takes the map whose points the tuples have from now on; the braids must fit it. */
        void prepare(PairMap newMap) {
            map.copy(newMap);
            // Of no use if the map is not bijective, but then no capital letter fits.
            inverse.becomeInverse(newMap);
        }

        int resultOf(Braid braid, int strands, int tuple) {
            int result = tuple;
            for (int i = 0; i < braid.length(); i++) {
                int shift = 3 * (strands - 2 - braid.position(i));
                result = (braid.isCapitalAt(i) ? inverse : map).appliedAt(result, shift);
            }
            return result;
        }

        int fixedTuples(Braid braid, int strands) {
            int fixed = 0;
            int tuple = 0;
            for (int i = tuples(strands); i > 0; i--) {
                fixed += oneIf(resultOf(braid, strands, tuple) == tuple);
                tuple = Codes.next(tuple, strands, map.points());
            }
            return fixed;
        }

        int periodOf(Braid braid, int strands) {
            Arrays.fill(seen, 0L);
            int period = 1;
            int tuple = 0;
            for (int i = tuples(strands); i > 0; i--) {
                if (!isSeen(tuple)) {
                    int length = cycleLength(braid, strands, tuple);
                    if (length == NONE) {
                        return NONE;
                    }
                    period = Codes.commonMultiple(period, length);
                }
                if (period > MOST_ROUNDS) {
                    return NONE;
                }
                tuple = Codes.next(tuple, strands, map.points());
            }
            return period;
        }

        int firstDifference(Braid first, Braid second, int strands) {
            int tuple = 0;
            for (int i = tuples(strands); i > 0; i--) {
                if (resultOf(first, strands, tuple) != resultOf(second, strands, tuple)) {
                    return tuple;
                }
                tuple = Codes.next(tuple, strands, map.points());
            }
            return NONE;
        }

        private int tuples(int strands) {
            return Codes.sequences(strands, map.points());
        }

        /** How often the braid acts until the tuple is back, NONE if too often; the tuples on the way become seen. */
        private int cycleLength(Braid braid, int strands, int tuple) {
            int reached = tuple;
            for (int round = 1; round <= MOST_ROUNDS; round++) {
                reached = resultOf(braid, strands, reached);
                see(reached);
                if (reached == tuple) {
                    return round;
                }
            }
            return NONE;
        }

        private boolean isSeen(int tuple) {
            return ((seen[(tuple >> 6) & SEEN_MASK] >> tuple) & 1L) != 0L;
        }

        private void see(int tuple) {
            seen[(tuple >> 6) & SEEN_MASK] |= 1L << tuple;
        }
    }

    /** The list of the involutive left nondegenerate solutions on up to four points, up to isomorphism. */
    private static final class SolutionList {
        private static final int MOST_LISTED_POINTS = 4;
        private static final int LISTED = 31;

        // Each number is the sequence of L, a hexadecimal digit a point, the first one leading. The list is written
        // out since finding it means trying some 300,000 maps; the test SolutionListTest finds it anew.
        private static final long[] ROWS = {
            0x0L,
            0x01_01L, 0x10_10L,
            0x012_012_012L, 0x012_012_102L, 0x012_021_021L, 0x021_021_021L, 0x120_120_120L,
            0x0123_0123_0123_0123L, 0x0123_0123_0123_0213L, 0x0123_0123_0123_1203L, 0x0123_0123_0132_0132L,
            0x0123_0123_0132_1032L, 0x0123_0123_1023_1023L, 0x0123_0123_1032_1032L, 0x0123_0132_0132_0132L,
            0x0123_0231_0231_0231L, 0x0132_0132_0132_0132L, 0x0132_0132_1023_1023L, 0x0132_0132_1032_1032L,
            0x0132_2310_3201_1023L, 0x0231_0231_0231_0231L, 0x0231_0312_0312_0312L, 0x1023_1023_0132_0132L,
            0x1023_1023_0132_1032L, 0x1023_1023_1032_1032L, 0x1023_2310_0132_3201L, 0x1032_1032_1032_1032L,
            0x1032_2301_2301_1032L, 0x1230_1230_1230_1230L, 0x1230_3012_1230_3012L,
        };

        static boolean hasPoints(int n) {
            return n >= 1 && n <= MOST_LISTED_POINTS;
        }

        /** Where the maps with n points begin in the row of all; with one point more than the most, where it ends. */
        static int start(int n) {
            switch (n) {
                case 1: return 0;
                case 2: return 1;
                case 3: return 3;
                case 4: return 8;
                default: return LISTED;
            }
        }

        static int size(int n) {
            return start(n + 1) - start(n);
        }

        static long rowsAt(int n, int index) {
            int at = start(n) + index;
            return at >= 0 && at < LISTED ? ROWS[at] : 0L;
        }

        /** Where the point with that index of a sequence of L stands in its number. */
        static int shiftOf(int index, int n) {
            return 4 * (n * n - 1 - index);
        }

        static void makeMap(PairMap made, int n, int index) {
            long rows = rowsAt(n, index);
            made.resize(n);
            for (int x = 0; x < n; x++) {
                for (int y = 0; y < n; y++) {
                    int left = pointAt(rows, n, x, y);
                    made.setImage(x, y, left, columnOf(rows, n, left, x));
                }
            }
        }

        private static int pointAt(long rows, int n, int x, int y) {
            return (int) (rows >> shiftOf(x * n + y, n)) & 7;
        }

        /** The y with L(x, y) = point. An involutive map has R(x, y) = c with L(L(x, y), c) = x. */
        private static int columnOf(long rows, int n, int x, int point) {
            for (int y = 0; y < n; y++) {
                if (pointAt(rows, n, x, y) == point) {
                    return y;
                }
            }
            return 0;
        }

        static int indexOf(PairMap map, Renamings renamings) {
            int n = map.points();
            // With these two properties L tells R, so that L alone decides.
            if (!hasPoints(n) || !Checks.isInvolutive(map) || !Checks.isLeftNondegenerate(map)) {
                return NONE;
            }
            long rows = renamings.smallestRows(map);
            for (int i = 0; i < size(n); i++) {
                if (rowsAt(n, i) == rows) {
                    return i;
                }
            }
            return NONE;
        }
    }
}
