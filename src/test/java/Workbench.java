/** What the tests of the promises and of the sentences share: an object, and ways to build its maps and to read them. */
abstract class Workbench {
    static final int NONE = -1, UNKNOWN = -1000001, OUTSIDE = -1000002, NOT = -1000003, FULL = -1000004;
    static final int LOW = Integer.MIN_VALUE, HIGH = Integer.MAX_VALUE;

    static final Due DUE = new Due();

    static ThreeStrandMaps maps = new ThreeStrandMaps();

    static void due(long got, long want) {
        DUE.is(got, want);
    }

    /** The code of some numbers. */
    static int code(int... numbers) {
        int code = 0;
        for (int i = 0; i < numbers.length; i++) {
            code |= numbers[i] << 3 * i;
        }
        return code;
    }

    static int identity(int n) {
        int code = 0;
        for (int x = 0; x < n; x++) {
            code |= x << 3 * x;
        }
        return code;
    }

    static void cells(int map, int x, int y, int left, int right) {
        due(maps.cell(map, x, y, 0), left);
        due(maps.cell(map, x, y, 1), right);
    }

    /** The map at a place: row x of the texts has L(x, y) and R(x, y) for each y, "01" for 0 and 1. */
    static void cellsAre(int map, String... rows) {
        due(maps.whole(map, 0), rows.length);
        for (int x = 0; x < rows.length; x++) {
            String[] row = rows[x].split(" ");
            for (int y = 0; y < rows.length; y++) {
                cells(map, x, y, row[y].charAt(0) - '0', row[y].charAt(1) - '0');
            }
        }
    }

    /** Fills the map at a place with such rows. */
    static void fill(int map, String... rows) {
        maps.flip(map, rows.length);
        for (int x = 0; x < rows.length; x++) {
            String[] row = rows[x].split(" ");
            for (int y = 0; y < rows.length; y++) {
                maps.put(map, x, y, row[y].charAt(0) - '0', row[y].charAt(1) - '0');
            }
        }
    }

    /** Fills the map at a place so that r turns the pairs, in lexicographic order, in cycles of these lengths. */
    static void fillCycles(int map, int n, int... lengths) {
        maps.flip(map, n);
        for (int pair = 0; pair < n * n; pair++) {
            maps.put(map, pair / n, pair % n, pair / n, pair % n);
        }
        int start = 0;
        for (int length : lengths) {
            for (int i = 0; i < length; i++) {
                int pair = start + i;
                int image = start + (i + 1) % length;
                maps.put(map, pair / n, pair % n, image / n, image % n);
            }
            start += length;
        }
    }

    /** Gives a braid these letters and no others. */
    static void letters(int braid, String letters) {
        maps.erase(braid);
        for (char letter : letters.toCharArray()) {
            maps.write(braid, letter);
        }
    }
}
