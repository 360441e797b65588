/** The promises one by one: ordinary calls, the edges that the document names, and wrong arguments. */
public final class PromisesTest extends Workbench {
    public static void main(String[] args) {
        Runnable[] promises = {
            PromisesTest::newObject, PromisesTest::flip, PromisesTest::twist, PromisesTest::group, PromisesTest::brace,
            PromisesTest::braces, PromisesTest::put, PromisesTest::retract, PromisesTest::unite, PromisesTest::pair,
            PromisesTest::invert, PromisesTest::mirror, PromisesTest::rename, PromisesTest::drop, PromisesTest::cell,
            PromisesTest::wholeOfSolutions, PromisesTest::wholeOfOthers, PromisesTest::wholeLevels,
            PromisesTest::wholePeriods, PromisesTest::wholeErrors, PromisesTest::fails, PromisesTest::orbit,
            PromisesTest::shut, PromisesTest::alike, PromisesTest::power, PromisesTest::like, PromisesTest::words,
            PromisesTest::least, PromisesTest::write, PromisesTest::erase, PromisesTest::through, PromisesTest::stays,
            PromisesTest::rounds, PromisesTest::part, PromisesTest::listed, PromisesTest::take, PromisesTest::count,
            PromisesTest::independence};
        for (Runnable promise : promises) {
            maps = new ThreeStrandMaps();
            promise.run();
        }
        DUE.end();
    }

    // Promise 1
    private static void newObject() {
        for (int what = 0; what < 4; what++) {
            due(maps.count(what), 0);
        }
        for (int place = 0; place < 4; place++) {
            due(maps.whole(place, 0), UNKNOWN);
            due(maps.drop(place), UNKNOWN);
        }
        due(maps.erase(0), 0);
        due(maps.erase(1), 0);
        maps.flip(0, 2);
        maps.write(0, 'a');
        due(new ThreeStrandMaps().whole(0, 0), UNKNOWN);
        due(new ThreeStrandMaps().erase(0), 0);
    }

    // Promise 2
    private static void flip() {
        for (int n = 1; n <= 6; n++) {
            due(maps.flip(n % 4, n), n);
            due(maps.whole(n % 4, 0), n);
            for (int x = 0; x < n; x++) {
                for (int y = 0; y < n; y++) {
                    cells(n % 4, x, y, y, x);
                }
            }
        }
        for (int place : new int[] {-1, 4, LOW, HIGH}) {
            due(maps.flip(place, 3), UNKNOWN);
            due(maps.flip(place, 0), UNKNOWN);
        }
        maps.flip(3, 3);
        for (int n : new int[] {0, 7, -1, LOW, HIGH}) {
            due(maps.flip(3, n), OUTSIDE);
        }
        due(maps.whole(3, 0), 3);
    }

    // Promise 3
    private static void twist() {
        due(maps.twist(0, 3, code(1, 2, 0), code(2, 1, 0)), 3);
        int[] f = {1, 2, 0};
        int[] g = {2, 1, 0};
        for (int x = 0; x < 3; x++) {
            for (int y = 0; y < 3; y++) {
                cells(0, x, y, f[y], g[x]);
            }
        }
        due(maps.twist(1, 1, 0, 0), 1);
        cells(1, 0, 0, 0, 0);
        due(maps.twist(1, 6, code(5, 4, 3, 2, 1, 0), code(0, 1, 2, 3, 5, 4)), 6);
        cells(1, 4, 0, 5, 5);
        cells(1, 5, 3, 2, 4);
        int good = code(1, 0);
        for (int bad : new int[] {0, code(1, 1), code(0, 2), code(1, 0, 1), code(1, 0, 0, 0, 0, 0, 1), -1, LOW, HIGH,
                good | LOW, good | 1 << 30}) {
            due(maps.twist(0, 2, bad, good), OUTSIDE);
            due(maps.twist(0, 2, good, bad), OUTSIDE);
        }
        due(maps.twist(0, 0, 0, 0), OUTSIDE);
        due(maps.twist(0, 7, code(0, 1, 2, 3, 4, 5, 6), code(0, 1, 2, 3, 4, 5, 6)), OUTSIDE);
        due(maps.twist(0, LOW, good, good), OUTSIDE);
        due(maps.whole(0, 0), 3);
        due(maps.twist(-1, 2, good, good), UNKNOWN);
        due(maps.twist(4, 9, -1, -1), UNKNOWN);
    }

    // Promise 4
    private static void group() {
        for (int n = 1; n <= 6; n++) {
            due(maps.group(0, 0, n), n);
            cells(0, n - 1, n / 2, n / 2, n - 1);
            due(maps.whole(0, 4), 1);
        }
        due(maps.group(1, 1, 4), 4);
        cells(1, 1, 2, 2, 1);
        cells(1, 3, 3, 3, 3);
        due(maps.group(2, 2, 6), 6);
        cells(2, 1, 3, 5, 1);
        cells(2, 3, 1, 2, 3);
        cells(2, 3, 4, 5, 3);
        cells(2, 1, 2, 2, 1);
        cells(2, 0, 4, 4, 0);
        cells(2, 4, 0, 0, 4);
        due(maps.group(0, -1, 4), OUTSIDE);
        due(maps.group(0, 3, 6), OUTSIDE);
        due(maps.group(0, LOW, 6), OUTSIDE);
        due(maps.group(0, 0, 0), OUTSIDE);
        due(maps.group(0, 0, 7), OUTSIDE);
        due(maps.group(0, 1, 3), OUTSIDE);
        due(maps.group(0, 1, 6), OUTSIDE);
        due(maps.group(0, 2, 4), OUTSIDE);
        due(maps.group(0, 2, 5), OUTSIDE);
        due(maps.group(0, 2, HIGH), OUTSIDE);
        due(maps.whole(0, 0), 6);
        due(maps.group(-1, 0, 3), UNKNOWN);
        due(maps.group(4, 7, 7), UNKNOWN);
    }

    // Promise 5
    private static void brace() {
        due(maps.brace(0, 4, code(1, 3, 1, 3)), 4);
        cells(0, 0, 1, 1, 0);
        cells(0, 1, 0, 0, 1);
        cells(0, 1, 1, 3, 3);
        cells(0, 1, 2, 2, 1);
        cells(0, 1, 3, 1, 3);
        cells(0, 2, 1, 1, 2);
        cells(0, 3, 1, 3, 1);
        due(maps.brace(1, 2, code(1, 1)), 2);
        cells(1, 1, 0, 0, 1);
        due(maps.brace(1, 3, code(1, 1, 1)), 3);
        due(maps.brace(1, 6, code(1, 5, 1, 5, 1, 5)), 6);
        cells(1, 1, 1, 5, 5);
        due(maps.brace(0, 4, code(1, 1, 1, 3)), NOT);
        due(maps.brace(0, 4, code(3, 3, 3, 3)), NOT);
        due(maps.brace(0, 3, code(1, 2, 2)), NOT);
        due(maps.brace(0, 4, code(1, 2, 1, 2)), OUTSIDE);
        due(maps.brace(0, 4, code(0, 1, 1, 1)), OUTSIDE);
        due(maps.brace(0, 4, code(1, 1, 1)), OUTSIDE);
        due(maps.brace(0, 4, code(1, 1, 1, 5)), OUTSIDE);
        due(maps.brace(0, 4, code(1, 3, 1, 3, 1)), OUTSIDE);
        due(maps.brace(0, 4, code(1, 3, 1, 3) | LOW), OUTSIDE);
        due(maps.brace(0, 6, code(1, 1, 1, 1, 1, 3)), OUTSIDE);
        due(maps.brace(0, 5, -1), OUTSIDE);
        due(maps.brace(0, 1, 1), OUTSIDE);
        due(maps.brace(0, 1, 0), OUTSIDE);
        due(maps.brace(0, 0, 0), OUTSIDE);
        due(maps.brace(0, 7, code(1, 1, 1, 1, 1, 1, 1)), OUTSIDE);
        due(maps.brace(0, LOW, 1), OUTSIDE);
        due(maps.brace(0, HIGH, 1), OUTSIDE);
        due(maps.whole(0, 0), 4);
        due(maps.brace(4, 4, code(1, 1, 1, 3)), UNKNOWN);
        due(maps.brace(-1, 9, -1), UNKNOWN);
    }

    // Promise 6
    private static void braces() {
        int[] numbers = {0, 0, 1, 1, 2, 1, 2};
        for (int n = 2; n <= 6; n++) {
            due(maps.braces(n, -1), numbers[n]);
            due(maps.braces(n, 0), code(1, 1, 1, 1, 1, 1) & (1 << 3 * n) - 1);
            due(maps.braces(n, numbers[n]), NONE);
            due(maps.braces(n, HIGH), NONE);
            due(maps.braces(n, -2), OUTSIDE);
            due(maps.braces(n, LOW), OUTSIDE);
        }
        due(maps.braces(4, 1), code(1, 3, 1, 3));
        due(maps.braces(6, 1), code(1, 5, 1, 5, 1, 5));
        due(maps.braces(1, -1), OUTSIDE);
        due(maps.braces(7, 0), OUTSIDE);
        due(maps.braces(LOW, 0), OUTSIDE);
        due(maps.braces(HIGH, 0), OUTSIDE);
    }

    // Promise 7
    private static void put() {
        maps.flip(0, 3);
        due(maps.put(0, 1, 2, 0, 1), code(2, 1));
        cells(0, 1, 2, 0, 1);
        due(maps.put(0, 1, 2, 2, 2), code(0, 1));
        cells(0, 1, 2, 2, 2);
        cells(0, 2, 1, 1, 2);
        for (int bad : new int[] {-1, 3, LOW, HIGH}) {
            due(maps.put(0, bad, 0, 0, 0), UNKNOWN);
            due(maps.put(0, 0, bad, 0, 0), UNKNOWN);
            due(maps.put(0, 1, 2, bad, 0), UNKNOWN);
            due(maps.put(0, 1, 2, 0, bad), UNKNOWN);
        }
        cells(0, 1, 2, 2, 2);
        due(maps.put(1, 0, 0, 0, 0), UNKNOWN);
        due(maps.put(-1, 0, 0, 0, 0), UNKNOWN);
        due(maps.put(4, 0, 0, 0, 0), UNKNOWN);
    }

    // Promise 8
    private static void retract() {
        maps.flip(0, 5);
        due(maps.retract(0, 0), 1);
        cells(0, 0, 0, 0, 0);
        due(maps.retract(0, 1), 1);
        maps.group(0, 2, 6);
        due(maps.retract(0, 1), 6);
        due(maps.like(0, 1, 0), code(0, 1, 2, 3, 4, 5));
        maps.brace(0, 4, code(1, 3, 1, 3));
        due(maps.retract(0, 2), 2);
        cells(2, 0, 1, 1, 0);
        due(maps.whole(0, 0), 4);
        // The points 0 and 1 are alike, but what they lead to is not: the smallest point decides.
        fill(0, "00 20 21", "02 22 20", "01 01 02");
        due(maps.retract(0, 0), 2);
        cells(0, 0, 0, 0, 0);
        cells(0, 0, 1, 1, 0);
        cells(0, 1, 0, 0, 0);
        cells(0, 1, 1, 0, 1);
        due(maps.retract(3, 0), UNKNOWN);
        due(maps.retract(-1, 0), UNKNOWN);
        due(maps.retract(4, 0), UNKNOWN);
        due(maps.retract(0, -1), UNKNOWN);
        due(maps.retract(0, 4), UNKNOWN);
        due(maps.whole(0, 0), 2);
    }

    // Promise 9
    private static void unite() {
        maps.twist(0, 2, code(1, 0), code(0, 1));
        maps.twist(1, 3, code(1, 2, 0), code(0, 1, 2));
        due(maps.unite(0, 1, 2), 5);
        cells(2, 0, 0, 1, 0);
        cells(2, 1, 0, 1, 1);
        cells(2, 0, 2, 2, 0);
        cells(2, 4, 1, 1, 4);
        cells(2, 2, 2, 3, 2);
        cells(2, 3, 4, 2, 3);
        due(maps.unite(1, 0, 1), 5);
        cells(1, 2, 0, 1, 2);
        cells(1, 3, 3, 4, 3);
        due(maps.unite(0, 0, 0), 4);
        cells(0, 0, 1, 0, 0);
        cells(0, 2, 2, 3, 2);
        cells(0, 3, 0, 0, 3);
        maps.flip(3, 2);
        due(maps.unite(3, 0, 0), 6);
        due(maps.unite(0, 3, 3), FULL);
        due(maps.unite(3, 2, 2), FULL);
        due(maps.whole(3, 0), 2);
        due(maps.unite(3, 3, 3), 4);
        due(maps.unite(0, 3, 4), UNKNOWN);
        due(maps.unite(0, 3, -1), UNKNOWN);
        maps.drop(1);
        due(maps.unite(1, 0, 2), UNKNOWN);
        due(maps.unite(0, 1, 2), UNKNOWN);
        due(maps.unite(4, 0, 2), UNKNOWN);
        due(maps.unite(0, LOW, 2), UNKNOWN);
        due(maps.whole(2, 0), 5);
    }

    // Promise 10
    private static void pair() {
        maps.twist(0, 2, code(1, 0), code(0, 1));
        maps.twist(1, 3, code(1, 2, 0), code(0, 2, 1));
        due(maps.pair(0, 1, 2), 6);
        // The pair (0, 2) is 2 and (1, 1) is 4: L is (0, 2) and R is (0, 1).
        cells(2, 2, 4, 2, 1);
        cells(2, 5, 0, 4, 4);
        due(maps.pair(1, 0, 2), 6);
        // The pair (2, 0) is 4 and (1, 1) is 3: L is (2, 0) and R is (1, 0).
        cells(2, 4, 3, 4, 2);
        due(maps.pair(0, 0, 0), 4);
        cells(0, 1, 2, 1, 1);
        due(maps.pair(0, 1, 1), FULL);
        due(maps.pair(1, 1, 1), FULL);
        due(maps.whole(1, 0), 3);
        maps.flip(3, 1);
        due(maps.pair(2, 3, 3), 6);
        due(maps.like(2, 3, 0), code(0, 1, 2, 3, 4, 5));
        due(maps.pair(2, 3, 4), UNKNOWN);
        due(maps.pair(2, 3, -1), UNKNOWN);
        maps.drop(0);
        due(maps.pair(0, 2, 2), UNKNOWN);
        due(maps.pair(2, 0, 2), UNKNOWN);
        due(maps.pair(2, HIGH, 2), UNKNOWN);
        due(maps.pair(-1, 2, 2), UNKNOWN);
    }

    // Promise 11
    private static void invert() {
        maps.twist(0, 3, code(1, 2, 0), code(1, 0, 2));
        due(maps.invert(0, 1), 3);
        // r(0, 2) = (0, 1) and r(2, 1) = (2, 2).
        cells(1, 0, 1, 0, 2);
        cells(1, 2, 2, 2, 1);
        due(maps.invert(1, 1), 3);
        due(maps.like(0, 1, 0), code(0, 1, 2));
        due(maps.invert(0, 4), UNKNOWN);
        maps.put(0, 0, 0, 2, 2);
        due(maps.invert(0, 1), NOT);
        due(maps.invert(0, 0), NOT);
        due(maps.invert(0, 4), UNKNOWN);
        due(maps.invert(0, -1), UNKNOWN);
        due(maps.invert(2, 0), UNKNOWN);
        due(maps.invert(-1, 0), UNKNOWN);
        due(maps.invert(4, 0), UNKNOWN);
        cells(1, 0, 0, 1, 1);
    }

    // Promise 12
    private static void mirror() {
        maps.twist(0, 3, code(1, 2, 0), code(1, 0, 2));
        maps.put(0, 0, 1, 2, 2);
        due(maps.mirror(0, 1), 3);
        cells(1, 1, 0, 2, 2);
        // L(0, 2) and R(0, 2) come from r(2, 0) = (1, 2).
        cells(1, 0, 2, 2, 1);
        cells(1, 2, 1, 0, 0);
        due(maps.mirror(0, 0), 3);
        cells(0, 1, 0, 2, 2);
        due(maps.mirror(2, 0), UNKNOWN);
        due(maps.mirror(-1, 0), UNKNOWN);
        due(maps.mirror(0, 4), UNKNOWN);
        due(maps.mirror(0, LOW), UNKNOWN);
    }

    // Promise 13
    private static void rename() {
        maps.group(0, 2, 6);
        due(maps.rename(0, code(3, 4, 5, 0, 2, 1), 1), 6);
        // L(1, 3) = 5 and R(1, 3) = 1 with f(1) = 4, f(3) = 0, f(5) = 1.
        cells(1, 4, 0, 1, 4);
        maps.twist(2, 3, code(1, 2, 0), code(0, 1, 2));
        due(maps.rename(2, code(1, 0, 2), 2), 3);
        cells(2, 2, 1, 0, 2);
        cells(2, 0, 0, 2, 0);
        due(maps.rename(2, code(0, 0, 1), 2), OUTSIDE);
        due(maps.rename(2, code(0, 1, 3), 2), OUTSIDE);
        due(maps.rename(2, code(0, 1), 2), OUTSIDE);
        due(maps.rename(2, code(0, 1, 2, 3), 2), OUTSIDE);
        due(maps.rename(2, -1, 2), OUTSIDE);
        due(maps.rename(2, code(0, 1, 2) | LOW, 2), OUTSIDE);
        due(maps.rename(3, -1, 0), UNKNOWN);
        due(maps.rename(2, -1, 4), UNKNOWN);
        due(maps.rename(2, code(0, 1, 2), -1), UNKNOWN);
        due(maps.rename(4, 0, 0), UNKNOWN);
        cells(2, 2, 1, 0, 2);
    }

    // Promise 14
    private static void drop() {
        maps.flip(2, 4);
        maps.flip(3, 2);
        due(maps.drop(2), 4);
        due(maps.drop(2), UNKNOWN);
        due(maps.whole(2, 0), UNKNOWN);
        due(maps.cell(2, 0, 0, 0), UNKNOWN);
        due(maps.whole(3, 0), 2);
        due(maps.drop(0), UNKNOWN);
        due(maps.drop(-1), UNKNOWN);
        due(maps.drop(4), UNKNOWN);
        due(maps.drop(HIGH), UNKNOWN);
        due(maps.flip(2, 3), 3);
        cells(2, 2, 0, 0, 2);
    }

    // Promise 15
    private static void cell() {
        maps.twist(0, 3, code(1, 2, 0), code(1, 0, 2));
        due(maps.cell(0, 0, 1, 0), 2);
        due(maps.cell(0, 0, 1, 1), 1);
        due(maps.cell(0, 0, 1, 2), OUTSIDE);
        due(maps.cell(0, 0, 1, -1), OUTSIDE);
        due(maps.cell(0, 0, 1, LOW), OUTSIDE);
        due(maps.cell(0, 3, 0, 9), UNKNOWN);
        due(maps.cell(0, -1, 0, 0), UNKNOWN);
        due(maps.cell(0, 0, 3, 0), UNKNOWN);
        due(maps.cell(0, 0, LOW, 0), UNKNOWN);
        due(maps.cell(1, 0, 0, 0), UNKNOWN);
        due(maps.cell(-1, 0, 0, 0), UNKNOWN);
        due(maps.cell(4, 0, 0, 0), UNKNOWN);
    }

    private static void whole(int map, int... properties) {
        for (int what = 0; what < properties.length; what++) {
            DUE.is("whole(" + map + ", " + what + ")", maps.whole(map, what), properties[what]);
        }
    }

    // Promise 16
    private static void wholeOfSolutions() {
        maps.flip(0, 1);
        whole(0, 1, 1, 0, 1, 1, 1, 1, 1, 1, 0, 1, 1, 1, 2, 0);
        maps.flip(0, 4);
        whole(0, 4, 1, 0, 1, 1, 1, 1, 1, 4, 1, 1, 24, 2, 16, 0);
        maps.flip(0, 6);
        whole(0, 6, 1, 0, 1, 1, 1, 1, 1, 6, 1, 1, 720, 2, 64, NONE);
        // The twist by a turn of five points and the turn back: r^2 is the identity.
        maps.twist(0, 5, code(1, 2, 3, 4, 0), code(4, 0, 1, 2, 3));
        whole(0, 5, 1, 0, 1, 1, 1, 1, 0, 1, 1, 5, 5, 2, 2, NONE);
        maps.group(0, 2, 6);
        whole(0, 6, 1, 0, 1, 0, 1, 1, 1, 3, NONE, 6, 6, 12, 18, NONE);
        maps.take(2, 1, 0);
        whole(0, 2, 1, 0, 1, 1, 1, 1, 0, 1, 1, 2, 2, 2, 2, 1);
    }

    private static void wholeOfOthers() {
        // r(x, y) = (x, y) is a solution, but degenerate on both sides.
        fill(0, "00 01", "10 11");
        whole(0, 2, 1, 0, 1, 1, 0, 0, 1, 1, NONE, NONE, 2, 1, 4, NONE);
        // r(x, y) = (0, 0): everything leads to 0.
        fill(0, "00 00", "00 00");
        whole(0, 2, 1, 0, 0, 0, 0, 0, 0, 1, 1, NONE, 1, NONE, 3, NONE);
        // r(x, y) = (y, y) is left nondegenerate only.
        fill(0, "00 11", "00 11");
        whole(0, 2, 1, 0, 0, 0, 1, 0, 1, 1, NONE, 1, 2, NONE, 4, NONE);
        maps.mirror(0, 1);
        due(maps.whole(1, 5), 0);
        due(maps.whole(1, 6), 1);
        due(maps.whole(1, 10), NONE);
        // Left nondegenerate, but not bijective.
        fill(0, "00 11", "11 00");
        due(maps.whole(0, 4), 0);
        due(maps.whole(0, 5), 1);
        due(maps.whole(0, 14), NONE);
        // Involutive and left nondegenerate, but no solution.
        fillInvolutive(0, new int[][] {{0, 1, 2}, {1, 0, 2}, {1, 2, 0}});
        due(maps.whole(0, 4), 1);
        due(maps.whole(0, 5), 1);
        due(maps.whole(0, 1), 0);
        due(maps.whole(0, 14), NONE);
        due(maps.whole(0, 10), 6);
        // All permutations of six points.
        maps.twist(0, 6, code(1, 2, 3, 4, 5, 0), code(0, 1, 2, 3, 4, 5));
        for (int y = 0; y < 6; y++) {
            maps.put(0, 3, y, y < 2 ? 1 - y : y, 3);
        }
        due(maps.whole(0, 10), 720);
        // One row that is no identity, the first or the last one.
        for (int x = 0; x < 6; x += 5) {
            maps.flip(0, 6);
            for (int y = 0; y < 6; y++) {
                maps.put(0, x, y, (y + 1) % 6, x);
            }
            due(maps.whole(0, 10), 6);
        }
    }

    /** Makes the involutive map with these L, each row a permutation. */
    private static void fillInvolutive(int map, int[][] left) {
        int n = left.length;
        maps.flip(map, n);
        for (int x = 0; x < n; x++) {
            for (int y = 0; y < n; y++) {
                for (int c = 0; c < n; c++) {
                    if (left[left[x][y]][c] == x) {
                        maps.put(map, x, y, left[x][y], c);
                    }
                }
            }
        }
    }

    private static void wholeLevels() {
        maps.brace(0, 4, code(1, 3, 1, 3));
        due(maps.whole(0, 9), 2);
        maps.flip(1, 2);
        due(maps.whole(1, 9), 1);
        maps.unite(0, 1, 2);
        due(maps.whole(2, 9), 2);
        maps.flip(3, 1);
        due(maps.whole(3, 9), 0);
        // The point 2 is alike to 0 and 1 once these are one, and 3 is alike to them once all three are one.
        maps.flip(0, 4);
        maps.put(0, 2, 0, 1, 2);
        maps.put(0, 2, 1, 0, 2);
        maps.put(0, 3, 2, 0, 3);
        due(maps.retract(0, 1), 3);
        due(maps.retract(1, 1), 2);
        due(maps.retract(1, 1), 1);
        due(maps.whole(0, 9), 3);
        due(maps.whole(0, 0), 4);
        // A level is missing though the first retraction makes the number smaller.
        fill(1, "00 01", "10 11");
        maps.flip(2, 2);
        maps.pair(1, 2, 3);
        due(maps.retract(3, 2), 2);
        due(maps.whole(2, 9), NONE);
        due(maps.whole(3, 9), NONE);
    }

    private static void wholePeriods() {
        fillCycles(0, 4, 3, 4, 5);
        due(maps.whole(0, 12), 60);
        fillCycles(0, 4, 7, 9);
        due(maps.whole(0, 12), 63);
        fillCycles(0, 4, 16);
        due(maps.whole(0, 12), 16);
        fillCycles(0, 6, 4, 5, 7, 9, 11);
        due(maps.whole(0, 12), 13860);
        fillCycles(0, 6, 36);
        due(maps.whole(0, 12), 36);
        fillCycles(0, 6, 1);
        due(maps.whole(0, 12), 1);
        // A cycle of pairs x, 0 and one of pairs 0, y.
        maps.put(0, 1, 0, 2, 0);
        maps.put(0, 2, 0, 3, 0);
        maps.put(0, 3, 0, 1, 0);
        due(maps.whole(0, 12), 3);
        maps.put(0, 0, 4, 0, 5);
        maps.put(0, 0, 5, 0, 4);
        due(maps.whole(0, 12), 6);
    }

    private static void wholeErrors() {
        maps.flip(0, 2);
        due(maps.whole(0, 15), OUTSIDE);
        due(maps.whole(0, -1), OUTSIDE);
        due(maps.whole(0, LOW), OUTSIDE);
        due(maps.whole(0, HIGH), OUTSIDE);
        for (int what = -1; what <= 15; what++) {
            due(maps.whole(1, what), UNKNOWN);
            due(maps.whole(-1, what), UNKNOWN);
            due(maps.whole(4, what), UNKNOWN);
        }
    }

    // Promise 17
    private static void fails() {
        maps.flip(0, 2);
        due(maps.fails(0, 0), NONE);
        maps.twist(0, 2, code(1, 0), code(0, 1));
        due(maps.whole(0, 2), 0);
        // The permutations do not commute: every triple is broken.
        maps.twist(0, 3, code(1, 2, 0), code(0, 2, 1));
        int broken = maps.whole(0, 2);
        due(broken, 27);
        due(maps.fails(0, 0), code(0, 0, 0));
        due(maps.fails(0, 1), code(0, 0, 1));
        due(maps.fails(0, 3), code(0, 1, 0));
        due(maps.fails(0, 9), code(1, 0, 0));
        due(maps.fails(0, 26), code(2, 2, 2));
        due(maps.fails(0, 27), NONE);
        due(maps.fails(0, HIGH), NONE);
        // r(1, 1) = (0, 0) on two points that are flipped otherwise: 1 1 1 comes to 0 0 1 or to 1 0 0, for instance.
        fill(0, "00 10", "01 00");
        due(maps.fails(0, 0), code(1, 1, 1));
        due(maps.fails(0, 1), NONE);
        due(maps.whole(0, 2), 1);
        due(maps.fails(0, -1), OUTSIDE);
        due(maps.fails(0, LOW), OUTSIDE);
        due(maps.fails(1, -1), UNKNOWN);
        due(maps.fails(-1, 0), UNKNOWN);
        due(maps.fails(4, 0), UNKNOWN);
    }

    // Promise 18
    private static void orbit() {
        maps.flip(0, 3);
        due(maps.orbit(0, 0), 1);
        due(maps.orbit(0, 2), 4);
        maps.group(0, 2, 6);
        due(maps.orbit(0, 0), 1);
        due(maps.orbit(0, 1), 6);
        due(maps.orbit(0, 2), 6);
        due(maps.orbit(0, 4), 56);
        // L alone joins 0 and 1, R alone joins 1 and 2.
        maps.flip(0, 4);
        maps.put(0, 3, 0, 1, 3);
        due(maps.orbit(0, 0), 3);
        due(maps.orbit(0, 1), 3);
        maps.put(0, 2, 3, 3, 1);
        due(maps.orbit(0, 0), 7);
        due(maps.orbit(0, 2), 7);
        due(maps.orbit(0, 3), 8);
        due(maps.whole(0, 8), 2);
        due(maps.orbit(0, 4), UNKNOWN);
        due(maps.orbit(0, -1), UNKNOWN);
        due(maps.orbit(1, 0), UNKNOWN);
        due(maps.orbit(4, 0), UNKNOWN);
        due(maps.orbit(-1, HIGH), UNKNOWN);
    }

    // Promise 19
    private static void shut() {
        maps.flip(0, 6);
        for (int set = 0; set < 64; set++) {
            due(maps.shut(0, set), set);
        }
        maps.group(0, 2, 6);
        due(maps.shut(0, 0), 0);
        due(maps.shut(0, 2), 2);
        due(maps.shut(0, 1 << 3 | 1 << 4), 56);
        due(maps.shut(0, 1 << 1 | 1 << 3), 62);
        due(maps.shut(0, 63), 63);
        // One point after the other: r(x, x) has x + 1 on the left, or on the right.
        fill(0, "10 10 20 30", "01 12 21 31", "02 12 32 32", "03 13 23 33");
        due(maps.shut(0, 1), 15);
        due(maps.shut(0, 2), 14);
        due(maps.shut(0, 4), 12);
        due(maps.shut(0, 8), 8);
        due(maps.whole(0, 13), 5);
        due(maps.shut(0, 16), OUTSIDE);
        due(maps.shut(0, -1), OUTSIDE);
        due(maps.shut(0, LOW), OUTSIDE);
        due(maps.shut(0, HIGH), OUTSIDE);
        due(maps.shut(1, -1), UNKNOWN);
        due(maps.shut(-1, 0), UNKNOWN);
        due(maps.shut(4, 0), UNKNOWN);
    }

    // Promise 20
    private static void alike() {
        maps.brace(0, 4, code(1, 3, 1, 3));
        due(maps.alike(0, 0), 0);
        due(maps.alike(0, 1), 1);
        due(maps.alike(0, 2), 0);
        due(maps.alike(0, 3), 1);
        maps.group(0, 2, 6);
        due(maps.alike(0, 5), 5);
        // L of 1 differs, then R of 2.
        maps.flip(0, 4);
        maps.put(0, 1, 3, 2, 1);
        due(maps.alike(0, 1), 1);
        due(maps.alike(0, 2), 0);
        due(maps.alike(0, 3), 0);
        maps.put(0, 1, 3, 3, 0);
        due(maps.alike(0, 0), 0);
        due(maps.alike(0, 1), 0);
        due(maps.alike(0, 3), 1);
        due(maps.alike(0, 4), UNKNOWN);
        due(maps.alike(0, -1), UNKNOWN);
        due(maps.alike(1, 0), UNKNOWN);
        due(maps.alike(-1, 0), UNKNOWN);
        due(maps.alike(4, 0), UNKNOWN);
    }

    // Promise 21
    private static void power() {
        fillCycles(0, 3, 9);
        due(maps.power(0, 0, 0, 0), code(0, 0));
        due(maps.power(0, 2, 1, 0), code(2, 1));
        due(maps.power(0, 0, 0, 1), code(0, 1));
        due(maps.power(0, 0, 0, 5), code(1, 2));
        due(maps.power(0, 0, 0, 9), code(0, 0));
        due(maps.power(0, 0, 0, 1000), code(0, 1));
        due(maps.power(0, 2, 2, 999), code(2, 2));
        due(maps.power(0, 0, 0, 1001), OUTSIDE);
        due(maps.power(0, 0, 0, -1), OUTSIDE);
        due(maps.power(0, 0, 0, LOW), OUTSIDE);
        due(maps.power(0, 0, 0, HIGH), OUTSIDE);
        due(maps.power(0, 3, 0, -1), UNKNOWN);
        due(maps.power(0, 0, 3, 0), UNKNOWN);
        due(maps.power(0, -1, 0, 0), UNKNOWN);
        due(maps.power(0, 0, -1, 0), UNKNOWN);
        due(maps.power(1, 0, 0, 0), UNKNOWN);
        due(maps.power(4, 0, 0, 0), UNKNOWN);
        due(maps.power(-1, 0, 0, 0), UNKNOWN);
    }

    // Promise 22
    private static void like() {
        maps.flip(0, 3);
        maps.flip(1, 3);
        int[] order = {code(0, 1, 2), code(0, 2, 1), code(1, 0, 2), code(1, 2, 0), code(2, 0, 1), code(2, 1, 0)};
        due(maps.like(0, 1, -1), 6);
        for (int i = 0; i < 6; i++) {
            due(maps.like(0, 1, i), order[i]);
            due(maps.like(0, 0, i), order[i]);
        }
        due(maps.like(0, 1, 6), NONE);
        due(maps.like(0, 1, HIGH), NONE);
        // From the turn by one to the turn by two, and not the other way round of the points.
        maps.twist(0, 5, code(1, 2, 3, 4, 0), code(0, 1, 2, 3, 4));
        maps.twist(1, 5, code(2, 3, 4, 0, 1), code(0, 1, 2, 3, 4));
        due(maps.like(0, 1, -1), 5);
        due(maps.like(0, 1, 0), code(0, 2, 4, 1, 3));
        due(maps.like(1, 0, 0), code(0, 3, 1, 4, 2));
        due(maps.like(0, 1, 4), code(4, 1, 3, 0, 2));
        maps.flip(2, 5);
        due(maps.like(0, 2, -1), 0);
        due(maps.like(0, 2, 0), NONE);
        maps.flip(2, 4);
        due(maps.like(0, 2, -1), 0);
        due(maps.like(2, 0, 0), NONE);
        due(maps.like(0, 2, -2), OUTSIDE);
        due(maps.like(0, 0, LOW), OUTSIDE);
        maps.flip(2, 6);
        due(maps.like(2, 2, 719), code(5, 4, 3, 2, 1, 0));
        due(maps.like(2, 2, 720), NONE);
        due(maps.like(3, 0, -2), UNKNOWN);
        due(maps.like(0, 3, -1), UNKNOWN);
        due(maps.like(-1, 0, -1), UNKNOWN);
        due(maps.like(0, 4, -1), UNKNOWN);
    }

    // Promise 23
    private static void words() {
        maps.flip(0, 3);
        int[] multisets = {3, 6, 10, 15};
        for (int k = 1; k <= 4; k++) {
            due(maps.words(0, k), multisets[k - 1]);
        }
        maps.flip(0, 6);
        due(maps.words(0, 4), 126);
        // The identity leaves every word alone.
        fill(0, "00 01", "10 11");
        due(maps.words(0, 1), 2);
        due(maps.words(0, 4), 16);
        // All pairs lead to 0 0.
        fill(0, "00 00", "00 00");
        due(maps.words(0, 1), 2);
        due(maps.words(0, 2), 1);
        due(maps.words(0, 4), 1);
        maps.flip(1, 1);
        due(maps.words(1, 4), 1);
        due(maps.words(0, 0), OUTSIDE);
        due(maps.words(0, 5), OUTSIDE);
        due(maps.words(0, LOW), OUTSIDE);
        due(maps.words(0, HIGH), OUTSIDE);
        due(maps.words(2, 0), UNKNOWN);
        due(maps.words(-1, 1), UNKNOWN);
        due(maps.words(4, 1), UNKNOWN);
    }

    // Promise 24
    private static void least() {
        maps.flip(0, 6);
        due(maps.least(0, 1, 5), 5);
        due(maps.least(0, 2, code(1, 0)), code(0, 1));
        due(maps.least(0, 4, code(3, 5, 0, 3)), code(0, 3, 3, 5));
        // Backwards from 0 0: the smallest word need not be reached forwards.
        fill(0, "01 01", "10 01");
        due(maps.least(0, 2, code(0, 1)), code(0, 0));
        due(maps.least(0, 2, code(1, 1)), code(0, 0));
        due(maps.least(0, 2, code(1, 0)), code(1, 0));
        due(maps.least(0, 1, code(1)), code(1));
        due(maps.least(0, 0, 0), OUTSIDE);
        due(maps.least(0, 5, 0), OUTSIDE);
        due(maps.least(0, LOW, 0), OUTSIDE);
        due(maps.least(0, 2, code(0, 2)), OUTSIDE);
        due(maps.least(0, 2, code(2, 0)), OUTSIDE);
        due(maps.least(0, 2, code(0, 0, 1)), OUTSIDE);
        due(maps.least(0, 4, code(0, 0, 0, 0, 1)), OUTSIDE);
        due(maps.least(0, 2, -1), OUTSIDE);
        due(maps.least(0, 2, LOW), OUTSIDE);
        due(maps.least(1, 0, -1), UNKNOWN);
        due(maps.least(-1, 1, 0), UNKNOWN);
        due(maps.least(4, 1, 0), UNKNOWN);
    }

    // Promise 25
    private static void write() {
        String letters = "abcABC";
        for (int i = 0; i < 24; i++) {
            due(maps.write(1, letters.charAt(i % 6)), i + 1);
        }
        due(maps.write(1, 'a'), FULL);
        due(maps.write(1, 'd'), OUTSIDE);
        due(maps.write(2, 'a'), UNKNOWN);
        due(maps.count(3), 24);
        due(maps.write(0, 'C'), 1);
        for (int bad : new int[] {'d', 'D', '`', '@', 0, 1, -1, 97 + 256, 97 + 65536, LOW, HIGH}) {
            due(maps.write(0, bad), OUTSIDE);
        }
        due(maps.write(-1, 'd'), UNKNOWN);
        due(maps.write(HIGH, 'a'), UNKNOWN);
        due(maps.write(0, 'c'), 2);
    }

    // Promise 26
    private static void erase() {
        letters(0, "abc");
        letters(1, "AB");
        due(maps.erase(0), 3);
        due(maps.erase(0), 0);
        due(maps.count(3), 2);
        due(maps.erase(1), 2);
        due(maps.write(0, 'b'), 1);
        due(maps.erase(-1), UNKNOWN);
        due(maps.erase(2), UNKNOWN);
        due(maps.erase(LOW), UNKNOWN);
        letters(0, "aaaaaaaaaaaaaaaaaaaaaaaa");
        due(maps.erase(0), 24);
        due(maps.write(0, 'a'), 1);
    }

    // Promise 27
    private static void through() {
        maps.twist(0, 3, code(1, 2, 0), code(1, 0, 2));
        due(maps.through(0, 0, 2, code(2, 1)), code(2, 1));
        letters(0, "a");
        due(maps.through(0, 0, 2, code(2, 1)), code(2, 2));
        due(maps.through(0, 0, 4, code(2, 1, 0, 1)), code(2, 2, 0, 1));
        letters(0, "b");
        due(maps.through(0, 0, 3, code(0, 2, 1)), code(0, 2, 2));
        due(maps.through(0, 0, 2, code(2, 1)), NOT);
        letters(0, "c");
        due(maps.through(0, 0, 4, code(0, 0, 2, 1)), code(0, 0, 2, 2));
        due(maps.through(0, 0, 3, code(2, 1, 0)), NOT);
        letters(0, "A");
        due(maps.through(0, 0, 2, code(2, 2)), code(2, 1));
        letters(0, "abCcBA");
        due(maps.through(0, 0, 4, code(0, 1, 2, 0)), code(0, 1, 2, 0));
        // a: 2 1 0 to 2 2 0; then b: 2 0 to f(0) g(2) = 1 2.
        letters(0, "ab");
        due(maps.through(0, 0, 3, code(2, 1, 0)), code(2, 1, 2));
        due(maps.through(0, 0, 1, 0), OUTSIDE);
        due(maps.through(0, 0, 5, 0), OUTSIDE);
        due(maps.through(0, 0, HIGH, 0), OUTSIDE);
        due(maps.through(0, 0, 2, code(0, 3)), OUTSIDE);
        due(maps.through(0, 0, 2, code(0, 0, 1)), OUTSIDE);
        due(maps.through(0, 0, 3, -1), OUTSIDE);
        due(maps.through(1, 0, 9, -1), UNKNOWN);
        due(maps.through(0, 2, 9, -1), UNKNOWN);
        due(maps.through(0, -1, 2, 0), UNKNOWN);
        due(maps.through(-1, 0, 2, 0), UNKNOWN);
        due(maps.through(4, 0, 2, 0), UNKNOWN);
        maps.put(0, 0, 0, 2, 2);
        due(maps.through(0, 0, 3, 0), code(2, 1, 2));
        letters(0, "aA");
        due(maps.through(0, 0, 3, 0), NOT);
    }

    // Promise 28
    private static void stays() {
        maps.flip(0, 3);
        due(maps.stays(0, 0, 2), 9);
        due(maps.stays(0, 0, 4), 81);
        letters(0, "a");
        due(maps.stays(0, 0, 2), 3);
        due(maps.stays(0, 0, 3), 9);
        letters(0, "ab");
        due(maps.stays(0, 0, 3), 3);
        due(maps.stays(0, 0, 2), NOT);
        letters(1, "abc");
        due(maps.stays(0, 1, 4), 3);
        due(maps.stays(0, 1, 3), NOT);
        letters(1, "aBAb");
        due(maps.stays(0, 1, 3), 3);
        due(maps.stays(0, 0, 1), OUTSIDE);
        due(maps.stays(0, 0, 5), OUTSIDE);
        due(maps.stays(0, 0, LOW), OUTSIDE);
        due(maps.stays(1, 0, 9), UNKNOWN);
        due(maps.stays(0, 2, 9), UNKNOWN);
        due(maps.stays(-1, 0, 2), UNKNOWN);
        due(maps.stays(0, -1, 2), UNKNOWN);
        maps.put(0, 0, 0, 1, 1);
        due(maps.stays(0, 1, 3), NOT);
        letters(1, "a");
        due(maps.stays(0, 1, 2), 2);
        maps.flip(0, 6);
        due(maps.stays(0, 0, 4), 36);
    }

    // Promise 29
    private static void rounds() {
        maps.flip(0, 4);
        due(maps.rounds(0, 0, 4), 1);
        letters(0, "a");
        due(maps.rounds(0, 0, 2), 2);
        letters(0, "ab");
        due(maps.rounds(0, 0, 3), 3);
        letters(0, "abc");
        due(maps.rounds(0, 0, 4), 4);
        due(maps.rounds(0, 0, 3), NOT);
        letters(0, "a");
        fillCycles(0, 4, 3, 4, 5);
        due(maps.rounds(0, 0, 2), 60);
        due(maps.rounds(0, 0, 4), 60);
        fillCycles(0, 4, 7, 9);
        due(maps.rounds(0, 0, 2), NONE);
        // One cycle of 60 tuples, or of 63: the two halves of a tuple turn by themselves.
        letters(0, "ac");
        fillCycles(0, 5, 20, 3);
        due(maps.rounds(0, 0, 4), 60);
        fillCycles(0, 4, 9, 7);
        due(maps.rounds(0, 0, 4), NONE);
        letters(0, "a");
        fillCycles(0, 6, 29, 2, 2);
        due(maps.rounds(0, 0, 2), 58);
        fillCycles(0, 6, 31, 2);
        due(maps.rounds(0, 0, 2), NONE);
        letters(0, "A");
        fillCycles(0, 6, 36);
        due(maps.rounds(0, 0, 2), 36);
        due(maps.rounds(0, 0, 1), OUTSIDE);
        due(maps.rounds(0, 0, 5), OUTSIDE);
        due(maps.rounds(0, 0, HIGH), OUTSIDE);
        due(maps.rounds(1, 0, 9), UNKNOWN);
        due(maps.rounds(0, 2, 9), UNKNOWN);
        due(maps.rounds(4, 0, 2), UNKNOWN);
        due(maps.rounds(0, -1, 2), UNKNOWN);
        fill(0, "00 00", "10 11");
        due(maps.rounds(0, 0, 2), NOT);
        letters(0, "a");
        due(maps.rounds(0, 0, 2), NONE);
    }

    // Promise 30
    private static void part() {
        maps.flip(0, 3);
        due(maps.part(0, 2), NONE);
        letters(0, "aba");
        letters(1, "bab");
        due(maps.part(0, 3), NONE);
        due(maps.part(0, 4), NONE);
        due(maps.part(0, 2), NOT);
        maps.twist(0, 3, code(1, 2, 0), code(0, 2, 1));
        due(maps.part(0, 3), code(0, 0, 0));
        fill(0, "00 10", "01 00");
        due(maps.part(0, 3), code(1, 1, 1));
        due(maps.part(0, 4), code(1, 1, 1, 0));
        maps.flip(0, 3);
        letters(0, "ab");
        letters(1, "");
        due(maps.part(0, 3), code(0, 0, 1));
        due(maps.part(0, 2), NOT);
        letters(0, "");
        letters(1, "b");
        due(maps.part(0, 2), NOT);
        due(maps.part(0, 3), code(0, 0, 1));
        due(maps.part(0, 1), OUTSIDE);
        due(maps.part(0, 5), OUTSIDE);
        due(maps.part(0, LOW), OUTSIDE);
        due(maps.part(1, 1), UNKNOWN);
        due(maps.part(-1, 2), UNKNOWN);
        due(maps.part(4, 2), UNKNOWN);
        maps.put(0, 0, 0, 1, 1);
        letters(1, "A");
        due(maps.part(0, 2), NOT);
        letters(0, "A");
        letters(1, "");
        due(maps.part(0, 2), NOT);
    }

    // Promise 31
    private static void listed() {
        due(maps.listed(1), 1);
        due(maps.listed(2), 2);
        due(maps.listed(3), 5);
        due(maps.listed(4), 23);
        due(maps.listed(0), OUTSIDE);
        due(maps.listed(5), OUTSIDE);
        due(maps.listed(-1), OUTSIDE);
        due(maps.listed(LOW), OUTSIDE);
        due(maps.listed(HIGH), OUTSIDE);
    }

    // Promise 32; the test SolutionListTest has the whole lists.
    private static void take() {
        due(maps.take(1, 0, 0), 1);
        cells(0, 0, 0, 0, 0);
        due(maps.take(2, 1, 0), 2);
        cells(0, 0, 0, 1, 1);
        cells(0, 0, 1, 0, 1);
        due(maps.take(3, 1, 3), 3);
        cells(3, 2, 0, 1, 2);
        cells(3, 0, 2, 2, 1);
        due(maps.take(3, 5, 3), NONE);
        due(maps.take(1, 1, 3), NONE);
        due(maps.take(2, 2, 3), NONE);
        due(maps.take(4, 23, 3), NONE);
        due(maps.take(4, HIGH, 3), NONE);
        cells(3, 2, 0, 1, 2);
        due(maps.take(3, -1, 3), OUTSIDE);
        due(maps.take(3, LOW, 3), OUTSIDE);
        due(maps.take(0, 0, 3), OUTSIDE);
        due(maps.take(5, 0, 3), OUTSIDE);
        due(maps.take(LOW, 0, 3), OUTSIDE);
        due(maps.take(3, 5, 4), UNKNOWN);
        due(maps.take(0, -1, -1), UNKNOWN);
        due(maps.whole(3, 0), 3);
        due(maps.take(4, 22, 3), 4);
        due(maps.whole(3, 14), 22);
    }

    // Promise 33
    private static void count() {
        maps.flip(0, 6);
        maps.flip(3, 2);
        due(maps.count(0), 2);
        due(maps.count(1), 8);
        maps.flip(0, 1);
        due(maps.count(0), 2);
        due(maps.count(1), 3);
        maps.drop(3);
        due(maps.count(0), 1);
        due(maps.count(1), 1);
        letters(0, "abc");
        letters(1, "A");
        due(maps.count(2), 3);
        due(maps.count(3), 1);
        due(maps.count(4), OUTSIDE);
        due(maps.count(-1), OUTSIDE);
        due(maps.count(LOW), OUTSIDE);
        due(maps.count(HIGH), OUTSIDE);
    }

    // "A map that is made from other maps is independent of them afterwards."
    private static void independence() {
        maps.flip(0, 2);
        maps.unite(0, 0, 1);
        maps.mirror(0, 2);
        maps.rename(0, code(0, 1), 3);
        maps.put(0, 0, 0, 1, 1);
        cells(1, 0, 0, 0, 0);
        cells(1, 2, 2, 2, 2);
        cells(2, 0, 0, 0, 0);
        cells(3, 0, 0, 0, 0);
        maps.put(3, 1, 1, 0, 0);
        cells(0, 1, 1, 1, 1);
        maps.drop(0);
        due(maps.whole(1, 0), 4);
        maps.take(2, 1, 0);
        maps.put(0, 0, 0, 0, 0);
        maps.take(2, 1, 1);
        cells(1, 0, 0, 1, 1);
    }
}
