import java.util.function.ToIntFunction;

/** Every map with two points, and every code that is about as long as it may be, against the model. */
public final class AllSmallTest {
    private static final Due DUE = new Due();

    // The same calls go to both; each part of the test has new ones, so that none of them gets more than 512 calls.
    private static ThreeStrandMaps program = new ThreeStrandMaps();
    private static Model model = new Model();
    private static String now = "";

    public static void main(String[] args) {
        for (int map = 0; map < 256; map++) {
            now = "map " + map;
            properties(map);
            lists(map);
            words(map);
            braids(map, "ab", "ba");
            braids(map, "aBc", "A");
            braids(map, "cbabC", "abacba");
        }
        for (int n = 0; n <= 7; n++) {
            now = n + " points";
            codes(n);
        }
        DUE.end();
    }

    private static void renew() {
        program = new ThreeStrandMaps();
        model = new Model();
    }

    private static void same(String call, ToIntFunction<ThreeStrandMaps> asked, ToIntFunction<Model> due) {
        DUE.is(now + ": " + call, asked.applyAsInt(program), due.applyAsInt(model));
    }

    /** Makes the map with two points whose images are the pairs of bits of the number; more points were there before. */
    private static void make(int map) {
        renew();
        same("flip", x -> x.flip(0, 6), x -> x.flip(0, 6));
        for (int pair = 0; pair < 36; pair += 1 + map % 3) {
            int a = pair / 6;
            int b = pair % 6;
            same("put", x -> x.put(0, a, b, (a + b) % 6, map % 6), x -> x.put(0, a, b, (a + b) % 6, map % 6));
        }
        same("mirror", x -> x.mirror(0, 0), x -> x.mirror(0, 0));
        same("flip", x -> x.flip(0, 2), x -> x.flip(0, 2));
        for (int pair = 0; pair < 4; pair++) {
            int a = pair / 2;
            int b = pair % 2;
            int left = map >> 2 * pair & 1;
            int right = map >> 2 * pair + 1 & 1;
            same("put", x -> x.put(0, a, b, left, right), x -> x.put(0, a, b, left, right));
        }
    }

    private static void properties(int map) {
        make(map);
        same("mirror", x -> x.mirror(0, 1), x -> x.mirror(0, 1));
        same("retract", x -> x.retract(0, 2), x -> x.retract(0, 2));
        same("invert", x -> x.invert(0, 3), x -> x.invert(0, 3));
        wholes();
        make(map);
        same("rename", x -> x.rename(0, 1, 1), x -> x.rename(0, 1, 1));
        same("unite", x -> x.unite(0, 1, 2), x -> x.unite(0, 1, 2));
        same("pair", x -> x.pair(1, 0, 3), x -> x.pair(1, 0, 3));
        wholes();
    }

    private static void wholes() {
        for (int place = 0; place < 4; place++) {
            int p = place;
            // The model finds the list for four points in some seconds, once.
            for (int property = -1; property <= 15; property++) {
                int what = property;
                same("whole " + p + " " + what, x -> x.whole(p, what), x -> x.whole(p, what));
            }
            for (int point = -1; point <= 4; point++) {
                int y = point;
                same("orbit", x -> x.orbit(p, y), x -> x.orbit(p, y));
                same("alike", x -> x.alike(p, y), x -> x.alike(p, y));
            }
            for (int set = -1; set <= 16; set++) {
                int y = set;
                same("shut", x -> x.shut(p, y), x -> x.shut(p, y));
            }
            for (int i = -2; i <= 4; i++) {
                int index = i;
                same("like", x -> x.like(0, p, index), x -> x.like(0, p, index));
                same("fails", x -> x.fails(p, index), x -> x.fails(p, index));
            }
        }
    }

    private static void lists(int map) {
        make(map);
        for (int i = -1; i <= 9; i++) {
            int index = i;
            same("fails", x -> x.fails(0, index), x -> x.fails(0, index));
        }
        for (int a = -1; a <= 2; a++) {
            for (int b = -1; b <= 2; b++) {
                for (int k = -1; k <= 6; k++) {
                    int first = a;
                    int second = b;
                    int times = k;
                    same("power", x -> x.power(0, first, second, times), x -> x.power(0, first, second, times));
                    same("cell", x -> x.cell(0, first, second, times), x -> x.cell(0, first, second, times));
                }
            }
        }
    }

    private static void words(int map) {
        make(map);
        for (int k = 0; k <= 5; k++) {
            int letters = k;
            same("words", x -> x.words(0, letters), x -> x.words(0, letters));
            for (int bits = 0; bits < 1 << k + 1; bits++) {
                int word = spread(bits);
                same("least", x -> x.least(0, letters, word), x -> x.least(0, letters, word));
            }
        }
    }

    /** The code of the bits of a number. */
    private static int spread(int bits) {
        int code = 0;
        for (int i = 0; i < 8; i++) {
            code |= (bits >> i & 1) << 3 * i;
        }
        return code;
    }

    private static void braids(int map, String first, String second) {
        make(map);
        for (char letter : first.toCharArray()) {
            same("write", x -> x.write(0, letter), x -> x.write(0, letter));
        }
        for (char letter : second.toCharArray()) {
            same("write", x -> x.write(1, letter), x -> x.write(1, letter));
        }
        for (int strands = 1; strands <= 5; strands++) {
            int s = strands;
            same("part " + s, x -> x.part(0, s), x -> x.part(0, s));
            for (int braid = -1; braid <= 2; braid++) {
                int b = braid;
                same("stays " + s, x -> x.stays(0, b, s), x -> x.stays(0, b, s));
                same("rounds " + s, x -> x.rounds(0, b, s), x -> x.rounds(0, b, s));
                for (int bits = 0; bits < 1 << s; bits++) {
                    int tuple = spread(bits);
                    same("through " + s, x -> x.through(0, b, s, tuple), x -> x.through(0, b, s, tuple));
                }
            }
        }
    }

    private static void codes(int n) {
        int good = 0543210 & (1 << 3 * n) - 1;
        for (int number = -9; number < (1 << 3 * Math.min(n, 6)) + 9; number++) {
            int code = number;
            if (number % 64 == 0) {
                renew();
            }
            same("twist " + code, x -> x.twist(0, n, code, good), x -> x.twist(0, n, code, good));
            same("twist " + code, x -> x.twist(1, n, good, code), x -> x.twist(1, n, good, code));
            same("flip", x -> x.flip(2, n), x -> x.flip(2, n));
            same("rename " + code, x -> x.rename(2, code, 3), x -> x.rename(2, code, 3));
            same("brace " + code, x -> x.brace(0, n, code), x -> x.brace(0, n, code));
            same("count", x -> x.count(1), x -> x.count(1));
        }
    }
}
