/** The sentences of the promises 15 to 22: the maps that are asked. */
final class AskingBoundaries extends Sentences {
    private AskingBoundaries() {
    }

    static void check() {
        cell();
        whole();
        wholeProperties();
        wholeNumbers();
        wholeErrors();
        fails();
        orbit();
        shut();
        alike();
        power();
        like();
    }

    private static void cell() {
        under("Promise 15: cell");
        says("Returns a part of the image of a pair.");
        maps.twist(0, 6, code(1, 2, 3, 4, 5, 0), code(5, 0, 1, 2, 3, 4));
        due(maps.cell(0, 5, 5, 0), 0);
        due(maps.cell(0, 0, 0, 1), 5);
        says("map: the place of the map");
        maps.flip(0, 1);
        maps.flip(3, 2);
        due(maps.cell(0, 0, 0, 0), 0);
        due(maps.cell(3, 0, 1, 0), 1);
        says("x: a point");
        maps.flip(0, 6);
        due(maps.cell(0, 0, 3, 1), 0);
        due(maps.cell(0, 5, 3, 1), 5);
        says("y: a point");
        maps.flip(0, 6);
        due(maps.cell(0, 3, 0, 0), 0);
        due(maps.cell(0, 3, 5, 0), 5);
        says("what: 0: L(x, y)");
        maps.flip(0, 2);
        due(maps.cell(0, 0, 1, 0), 1);
        says("1: R(x, y)");
        maps.flip(0, 2);
        due(maps.cell(0, 0, 1, 1), 0);
        says("Returns that point");
        maps.flip(0, 1);
        due(maps.cell(0, 0, 0, 0), 0);
        due(maps.cell(0, 0, 0, 1), 0);
        says("UNKNOWN if there is no such map, or x or y is not a point of it");
        maps.flip(0, 3);
        due(maps.cell(1, 0, 0, 0), UNKNOWN);
        for (int place : NOT_OF_FOUR) {
            due(maps.cell(place, 0, 0, 0), UNKNOWN);
        }
        for (int bad : new int[] {-1, 3, 7, 8, LOW, HIGH}) {
            for (int what = -1; what <= 2; what++) {
                due(maps.cell(0, bad, 0, what), UNKNOWN);
                due(maps.cell(0, 0, bad, what), UNKNOWN);
            }
        }
        says("OUTSIDE if what is out of range.");
        maps.flip(0, 3);
        for (int what : new int[] {-1, 2, LOW, HIGH}) {
            due(maps.cell(0, 0, 0, what), OUTSIDE);
            due(maps.cell(0, 2, 2, what), OUTSIDE);
        }
    }

    private static void whole() {
        under("Promise 16: whole");
        says("Returns a property of a map (1 for yes, 0 for no).");
        maps.flip(0, 2);
        fill(1, "01 01", "01 01");
        for (int what : new int[] {1, 3, 4, 5, 6, 7}) {
            due(maps.whole(0, what), 1);
            due(maps.whole(1, what), 0);
        }
        says("map: the place of the map");
        maps.flip(0, 1);
        maps.flip(3, 4);
        due(maps.whole(0, 0), 1);
        due(maps.whole(3, 0), 4);
        says("what: 0: the number n of points");
        for (int n = 1; n <= 6; n++) {
            maps.flip(0, n);
            due(maps.whole(0, 0), n);
        }
        says("1: whether it is a solution");
        maps.flip(0, 6);
        due(maps.whole(0, 1), 1);
        // One triple for which the equation does not hold is enough.
        fill(0, "00 10", "01 00");
        due(maps.whole(0, 2), 1);
        due(maps.whole(0, 1), 0);
        says("2: the number of triples x, y, z for which the braid equation does not hold");
        for (int n = 1; n <= 6; n++) {
            maps.flip(0, n);
            due(maps.whole(0, 2), 0);
        }
        maps.twist(0, 6, code(1, 2, 0, 4, 5, 3), code(0, 2, 1, 3, 5, 4));
        due(maps.whole(0, 2), 216);
        maps.twist(0, 3, code(1, 2, 0), code(0, 2, 1));
        due(maps.whole(0, 2), 27);
        due(maps.whole(0, 1), 0);
    }

    private static void wholeProperties() {
        says("3: whether it is bijective");
        fillCycles(0, 6, 36);
        due(maps.whole(0, 3), 1);
        maps.put(0, 5, 5, 5, 5);
        due(maps.whole(0, 3), 0);
        maps.put(0, 5, 5, 0, 0);
        due(maps.whole(0, 3), 1);
        says("4: involutive");
        maps.flip(0, 6);
        due(maps.whole(0, 4), 1);
        fillCycles(0, 2, 2);
        due(maps.whole(0, 4), 1);
        fillCycles(0, 2, 3);
        due(maps.whole(0, 4), 0);
        says("5: left nondegenerate");
        maps.flip(0, 6);
        maps.put(0, 5, 5, 4, 5);
        due(maps.whole(0, 5), 0);
        due(maps.whole(0, 6), 1);
        fill(0, "00 11", "00 11");
        due(maps.whole(0, 5), 1);
        due(maps.whole(0, 6), 0);
        says("6: right nondegenerate");
        maps.flip(0, 6);
        maps.put(0, 5, 5, 5, 4);
        due(maps.whole(0, 6), 0);
        due(maps.whole(0, 5), 1);
        says("7: square-free");
        fillCycles(0, 6, 1);
        due(maps.whole(0, 7), 1);
        // Other pairs do not matter.
        maps.put(0, 0, 5, 3, 3);
        maps.put(0, 5, 0, 3, 3);
        due(maps.whole(0, 7), 1);
        maps.put(0, 5, 5, 0, 0);
        due(maps.whole(0, 7), 0);
        says("8: the number of orbits");
        for (int n = 1; n <= 6; n++) {
            maps.flip(0, n);
            due(maps.whole(0, 8), n);
        }
        maps.twist(0, 6, code(1, 2, 3, 4, 5, 0), identity(6));
        due(maps.whole(0, 8), 1);
        maps.twist(0, 6, code(1, 0, 2, 3, 4, 5), code(0, 1, 2, 3, 5, 4));
        due(maps.whole(0, 8), 4);
    }

    private static void wholeNumbers() {
        says("9: the level, NONE if it has none");
        maps.flip(0, 1);
        due(maps.whole(0, 9), 0);
        maps.flip(0, 2);
        due(maps.whole(0, 9), 1);
        for (int x = 2; x < 6; x++) {
            maps.flip(0, 6);
            for (int y = 2; y <= x; y++) {
                maps.put(0, y, y - 1, y - 2, y);
            }
            // The points after x are alike to 0 and 1 from the beginning.
            due(maps.whole(0, 9), x);
        }
        maps.group(0, 2, 6);
        due(maps.whole(0, 9), NONE);
        says("10: the number of permutations in the group that is generated by the permutations y -> L(x, y) for all x, "
            + "NONE if the map is not left nondegenerate");
        for (int n = 1; n <= 6; n++) {
            maps.flip(0, n);
            due(maps.whole(0, 10), 1);
        }
        for (int n = 2; n <= 6; n++) {
            // The exchange of two points, the first ones or the last ones, by the first row alone or by the last one.
            for (int x = 0; x < n; x += n - 1) {
                for (int y = 0; y <= n - 2; y += Math.max(1, n - 2)) {
                    maps.flip(0, n);
                    maps.put(0, x, y, y + 1, x);
                    maps.put(0, x, y + 1, y, x);
                    due(maps.whole(0, 10), 2);
                }
            }
        }
        maps.twist(0, 6, code(1, 2, 3, 4, 5, 0), identity(6));
        due(maps.whole(0, 10), 6);
        // A turn and the exchange of two neighbours generate all 720.
        for (int y = 0; y < 6; y++) {
            maps.put(0, 5, y, y < 2 ? 1 - y : y, 5);
        }
        due(maps.whole(0, 10), 720);
        maps.put(0, 5, 5, 0, 5);
        due(maps.whole(0, 10), NONE);
        // The last row alone is no identity.
        maps.flip(0, 6);
        maps.put(0, 5, 4, 5, 5);
        due(maps.whole(0, 10), NONE);
        maps.put(0, 5, 5, 4, 5);
        due(maps.whole(0, 10), 2);
        says("11: the number of isomorphisms to itself");
        int factorial = 1;
        for (int n = 1; n <= 6; n++) {
            factorial *= n;
            maps.flip(0, n);
            due(maps.whole(0, 11), factorial);
        }
        maps.twist(0, 3, code(1, 2, 0), code(0, 2, 1));
        due(maps.whole(0, 11), 1);
        periods();
        says("13: the number of closed sets");
        for (int n = 1; n <= 6; n++) {
            maps.flip(0, n);
            due(maps.whole(0, 13), 1 << n);
        }
        maps.twist(0, 6, code(1, 2, 3, 4, 5, 0), identity(6));
        due(maps.whole(0, 13), 2);
        maps.flip(0, 6);
        // Without 5: 32 sets. With 5, only those that hold 0, too.
        maps.put(0, 5, 5, 5, 0);
        due(maps.whole(0, 13), 32 + 16);
        listIndices();
    }

    private static void periods() {
        says("12: the smallest k from 1 on such that applying r k times to any pair gives this pair, NONE if the map is not "
            + "bijective");
        fillCycles(0, 6, 1);
        due(maps.whole(0, 12), 1);
        maps.flip(0, 1);
        due(maps.whole(0, 12), 1);
        maps.flip(0, 2);
        due(maps.whole(0, 12), 2);
        fillCycles(0, 6, 36);
        due(maps.whole(0, 12), 36);
        maps.put(0, 5, 5, 5, 5);
        due(maps.whole(0, 12), NONE);
        fillCycles(0, 6, 32, 4);
        due(maps.whole(0, 12), 32);
        fillCycles(0, 6, 2, 6, 4, 12);
        due(maps.whole(0, 12), 12);
        says("the smallest k from 1 on");
        // A cycle of pairs x, 0 alone, then one of pairs 0, y beside it.
        fillCycles(0, 6, 1);
        maps.put(0, 1, 0, 2, 0);
        maps.put(0, 2, 0, 3, 0);
        maps.put(0, 3, 0, 1, 0);
        due(maps.whole(0, 12), 3);
        maps.put(0, 0, 4, 0, 5);
        maps.put(0, 0, 5, 0, 4);
        due(maps.whole(0, 12), 6);
        // No other cycles of 36 pairs together need more.
        fillCycles(0, 6, 4, 5, 7, 9, 11);
        due(maps.whole(0, 12), 13860);
        fill(0, "00 00", "00 00");
        due(maps.whole(0, 12), NONE);
        fillCycles(0, 2, 1, 3);
        due(maps.whole(0, 12), 3);
        fillCycles(0, 2, 3, 1);
        due(maps.whole(0, 12), 3);
    }

    private static void listIndices() {
        says("14: the index of the map of the list for n points to which it is isomorphic, NONE if there is none, or n is "
            + "greater than 4");
        int[] sizes = {1, 2, 5, 23};
        // A map with more points was there before.
        fillCycles(0, 6, 35);
        maps.mirror(0, 0);
        for (int n = 4; n >= 1; n--) {
            for (int i = 0; i < sizes[n - 1]; i++) {
                maps.take(n, i, 0);
                due(maps.whole(0, 14), i);
            }
            // Renamed, the last one of the list is still the last one.
            int reversed = code(5, 4, 3, 2, 1, 0) >> 3 * (6 - n);
            due(maps.rename(0, reversed, 0), n);
            due(maps.whole(0, 14), sizes[n - 1] - 1);
        }
        for (int n = 5; n <= 6; n++) {
            maps.flip(0, n);
            due(maps.whole(0, 14), NONE);
        }
        // A solution that is not involutive, with the L of a map of the list.
        maps.flip(0, 2);
        maps.twist(0, 2, identity(2), code(1, 0));
        due(maps.whole(0, 1), 1);
        due(maps.whole(0, 4), 0);
        due(maps.whole(0, 14), NONE);
        // An involutive solution that is not left nondegenerate.
        fillCycles(0, 4, 1);
        due(maps.whole(0, 1), 1);
        due(maps.whole(0, 4), 1);
        due(maps.whole(0, 14), NONE);
        says("NONE if there is none");
        // Involutive and left nondegenerate, but no solution: the rows of L are 0 1 2, 1 0 2 and 1 2 0.
        fill(0, "00 11 22", "10 01 20", "12 21 02");
        due(maps.whole(0, 4), 1);
        due(maps.whole(0, 5), 1);
        due(maps.whole(0, 1), 0);
        due(maps.whole(0, 14), NONE);
    }

    private static void wholeErrors() {
        says("Returns the property");
        maps.flip(0, 1);
        int[] properties = {1, 1, 0, 1, 1, 1, 1, 1, 1, 0, 1, 1, 1, 2, 0};
        for (int what = 0; what < 15; what++) {
            due(maps.whole(0, what), properties[what]);
        }
        says("UNKNOWN if there is no such map");
        for (int what = -1; what <= 15; what++) {
            due(maps.whole(0, what), UNKNOWN);
            for (int place : NOT_OF_FOUR) {
                due(maps.whole(place, what), UNKNOWN);
            }
        }
        says("OUTSIDE if what is out of range.");
        maps.flip(0, 3);
        for (int what : new int[] {-1, 15, 16, LOW, HIGH}) {
            due(maps.whole(0, what), OUTSIDE);
        }
        due(maps.whole(0, 14), 0);
    }

    private static void fails() {
        under("Promise 17: fails");
        says("Lists the triples x, y, z for which the braid equation does not hold, in lexicographic order.");
        maps.twist(0, 6, code(1, 2, 0, 4, 5, 3), code(0, 2, 1, 3, 5, 4));
        for (int i = 0; i < 216; i++) {
            due(maps.fails(0, i), code(i / 36, i / 6 % 6, i % 6));
        }
        says("map: the place of the map");
        maps.flip(0, 2);
        fill(3, "00 10", "01 00");
        due(maps.fails(0, 0), NONE);
        due(maps.fails(3, 0), code(1, 1, 1));
        says("i: an index, 0 or greater");
        fill(0, "01 01", "01 01");
        due(maps.fails(0, 0), 0);
        due(maps.fails(0, 7), code(1, 1, 1));
        due(maps.fails(0, 8), NONE);
        says("Returns the code of the triple with this index");
        fill(0, "11 10", "01 11");
        due(maps.fails(0, 0), 0);
        maps.twist(0, 4, code(1, 2, 0, 3), code(0, 2, 1, 3));
        due(maps.fails(0, 0), 0);
        due(maps.fails(0, 1), code(0, 0, 1));
        due(maps.fails(0, 4), code(0, 1, 0));
        due(maps.fails(0, 47), code(3, 2, 3));
        says("NONE if there are not so many");
        for (int n = 1; n <= 6; n++) {
            maps.flip(0, n);
            due(maps.fails(0, 0), NONE);
            due(maps.fails(0, HIGH), NONE);
        }
        maps.twist(0, 6, code(1, 2, 0, 4, 5, 3), code(0, 2, 1, 3, 5, 4));
        due(maps.fails(0, 216), NONE);
        fill(0, "11 10", "01 11");
        due(maps.fails(0, 1), NONE);
        says("UNKNOWN if there is no such map");
        for (int i = -1; i <= 0; i++) {
            due(maps.fails(0, i), UNKNOWN);
            for (int place : NOT_OF_FOUR) {
                due(maps.fails(place, i), UNKNOWN);
            }
        }
        says("OUTSIDE if i is negative.");
        maps.flip(0, 2);
        fill(1, "01 01", "01 01");
        for (int i : new int[] {-1, -2, LOW}) {
            due(maps.fails(0, i), OUTSIDE);
            due(maps.fails(1, i), OUTSIDE);
        }
    }

    private static void orbit() {
        under("Promise 18: orbit");
        says("Returns the orbit of a point.");
        maps.group(0, 2, 6);
        int[] orbits = {1, 6, 6, 56, 56, 56};
        for (int x = 0; x < 6; x++) {
            due(maps.orbit(0, x), orbits[x]);
        }
        says("map: the place of the map");
        maps.flip(0, 2);
        maps.twist(3, 2, code(1, 0), code(0, 1));
        due(maps.orbit(0, 0), 1);
        due(maps.orbit(3, 0), 3);
        says("x: the point");
        maps.flip(0, 6);
        due(maps.orbit(0, 0), 1);
        due(maps.orbit(0, 5), 32);
        says("Returns the set of its points");
        for (int n = 1; n <= 6; n++) {
            maps.flip(0, n);
            for (int x = 0; x < n; x++) {
                due(maps.orbit(0, x), 1 << x);
            }
        }
        maps.twist(0, 6, identity(6), code(1, 2, 3, 4, 5, 0));
        due(maps.orbit(0, 0), 63);
        due(maps.orbit(0, 5), 63);
        says("UNKNOWN if there is no such map or point.");
        maps.flip(0, 3);
        due(maps.orbit(1, 0), UNKNOWN);
        for (int place : NOT_OF_FOUR) {
            due(maps.orbit(place, 0), UNKNOWN);
        }
        for (int x : new int[] {-1, 3, 6, 32, LOW, HIGH}) {
            due(maps.orbit(0, x), UNKNOWN);
        }
    }

    private static void shut() {
        under("Promise 19: shut");
        says("Returns the smallest closed set that contains a set.");
        maps.flip(0, 6);
        for (int x = 0; x < 5; x++) {
            maps.put(0, x, x, x, x + 1);
        }
        due(maps.shut(0, 1), 63);
        due(maps.shut(0, 1 << 4), 1 << 4 | 1 << 5);
        due(maps.shut(0, 1 << 5), 1 << 5);
        due(maps.shut(0, 1 << 3 | 1 << 5), 1 << 3 | 1 << 4 | 1 << 5);
        // The way goes down, too: each point leads to the one before it.
        maps.flip(0, 6);
        for (int x = 1; x < 6; x++) {
            maps.put(0, x, x, x - 1, x);
        }
        due(maps.shut(0, 1 << 5), 63);
        due(maps.shut(0, 1), 1);
        says("map: the place of the map");
        maps.flip(0, 2);
        maps.twist(3, 2, code(1, 0), code(0, 1));
        due(maps.shut(0, 1), 1);
        due(maps.shut(3, 1), 3);
        says("set: the set");
        maps.flip(0, 6);
        for (int set = 0; set < 64; set++) {
            due(maps.shut(0, set), set);
        }
        says("Returns the closed set");
        maps.twist(0, 6, code(1, 2, 3, 4, 5, 0), identity(6));
        due(maps.shut(0, 0), 0);
        due(maps.shut(0, 1), 63);
        due(maps.shut(0, 32), 63);
        due(maps.shut(0, 63), 63);
        says("UNKNOWN if there is no such map");
        for (int set : new int[] {0, 1, 64, -1}) {
            due(maps.shut(0, set), UNKNOWN);
            for (int place : NOT_OF_FOUR) {
                due(maps.shut(place, set), UNKNOWN);
            }
        }
        says("OUTSIDE if set is not a set of points of the map.");
        for (int n = 1; n <= 6; n++) {
            maps.flip(0, n);
            due(maps.shut(0, (1 << n) - 1), (1 << n) - 1);
            for (int set : new int[] {1 << n, 1 << n | 1, -1, LOW, HIGH}) {
                due(maps.shut(0, set), OUTSIDE);
            }
        }
    }

    private static void alike() {
        under("Promise 20: alike");
        says("Returns the number of the class of a point, as in the retraction.");
        maps.brace(0, 4, code(1, 3, 1, 3));
        for (int x = 0; x < 4; x++) {
            due(maps.alike(0, x), x % 2);
        }
        says("map: the place of the map");
        maps.group(0, 2, 6);
        maps.flip(3, 6);
        due(maps.alike(0, 5), 5);
        due(maps.alike(3, 5), 0);
        says("x: the point");
        maps.group(0, 2, 6);
        due(maps.alike(0, 0), 0);
        due(maps.alike(0, 5), 5);
        says("Returns the number of the class");
        for (int n = 1; n <= 6; n++) {
            maps.flip(0, n);
            for (int x = 0; x < n; x++) {
                due(maps.alike(0, x), 0);
            }
        }
        maps.flip(0, 6);
        maps.put(0, 0, 0, 5, 0);
        due(maps.alike(0, 0), 0);
        due(maps.alike(0, 1), 1);
        due(maps.alike(0, 5), 1);
        says("UNKNOWN if there is no such map or point.");
        maps.flip(0, 3);
        due(maps.alike(1, 0), UNKNOWN);
        for (int place : NOT_OF_FOUR) {
            due(maps.alike(place, 0), UNKNOWN);
        }
        for (int x : new int[] {-1, 3, 6, 7, 8, LOW, HIGH}) {
            due(maps.alike(0, x), UNKNOWN);
        }
    }

    private static void power() {
        under("Promise 21: power");
        says("Applies r to a pair k times.");
        fillCycles(0, 6, 36);
        for (int k = 0; k <= 36; k++) {
            due(maps.power(0, 0, 0, k), code(k % 36 / 6, k % 6));
        }
        says("map: the place of the map");
        maps.flip(0, 2);
        fillCycles(3, 2, 1);
        due(maps.power(0, 0, 1, 1), code(1, 0));
        due(maps.power(3, 0, 1, 1), code(0, 1));
        says("x: a point");
        maps.flip(0, 6);
        due(maps.power(0, 5, 0, 1), code(0, 5));
        says("y: a point");
        maps.flip(0, 6);
        due(maps.power(0, 0, 5, 1), code(5, 0));
        says("k: how many times, 0 to 1000");
        fillCycles(0, 6, 36);
        due(maps.power(0, 5, 5, 0), code(5, 5));
        // 1000 is 27 times 36 and 28.
        due(maps.power(0, 0, 0, 1000), code(4, 4));
        due(maps.power(0, 0, 0, 999), code(4, 3));
        due(maps.power(0, 5, 5, 1), code(0, 0));
        says("Returns the code of the resulting pair");
        fill(0, "10 10", "01 01");
        due(maps.power(0, 1, 1, 1), code(0, 1));
        due(maps.power(0, 1, 1, 2), code(1, 0));
        due(maps.power(0, 1, 1, 3), code(0, 1));
        due(maps.power(0, 1, 1, 0), code(1, 1));
        says("UNKNOWN if there is no such map, or x or y is not a point of it");
        maps.flip(0, 3);
        for (int k : new int[] {0, 1, 1001, -1}) {
            due(maps.power(1, 0, 0, k), UNKNOWN);
            for (int place : NOT_OF_FOUR) {
                due(maps.power(place, 0, 0, k), UNKNOWN);
            }
            for (int bad : new int[] {-1, 3, 7, 8, LOW, HIGH}) {
                due(maps.power(0, bad, 0, k), UNKNOWN);
                due(maps.power(0, 0, bad, k), UNKNOWN);
            }
        }
        says("OUTSIDE if k is out of range.");
        maps.flip(0, 3);
        for (int k : new int[] {-1, 1001, LOW, HIGH}) {
            due(maps.power(0, 0, 0, k), OUTSIDE);
            due(maps.power(0, 2, 2, k), OUTSIDE);
        }
    }

    private static void like() {
        under("Promise 22: like");
        says("Lists the isomorphisms of a map to another one (or to itself), in the lexicographic order of f(0), f(1), ...");
        maps.flip(0, 3);
        maps.flip(1, 3);
        int[] order = {code(0, 1, 2), code(0, 2, 1), code(1, 0, 2), code(1, 2, 0), code(2, 0, 1), code(2, 1, 0)};
        for (int i = 0; i < 6; i++) {
            due(maps.like(0, 1, i), order[i]);
            due(maps.like(0, 0, i), order[i]);
        }
        maps.flip(0, 6);
        due(maps.like(0, 0, 0), identity(6));
        due(maps.like(0, 0, 1), code(0, 1, 2, 3, 5, 4));
        due(maps.like(0, 0, 119), code(0, 5, 4, 3, 2, 1));
        due(maps.like(0, 0, 120), code(1, 0, 2, 3, 4, 5));
        due(maps.like(0, 0, 719), code(5, 4, 3, 2, 1, 0));
        says("a: the place of the first map");
        maps.twist(0, 5, code(1, 2, 3, 4, 0), identity(5));
        maps.twist(3, 5, code(2, 3, 4, 0, 1), identity(5));
        due(maps.like(0, 3, 0), code(0, 2, 4, 1, 3));
        says("b: the place of the other map");
        maps.twist(0, 5, code(1, 2, 3, 4, 0), identity(5));
        maps.twist(3, 5, code(2, 3, 4, 0, 1), identity(5));
        due(maps.like(3, 0, 0), code(0, 3, 1, 4, 2));
        says("i: -1 for the number of isomorphisms, or an index from 0");
        maps.flip(0, 6);
        due(maps.like(0, 0, -1), 720);
        maps.flip(1, 1);
        due(maps.like(1, 1, -1), 1);
        due(maps.like(1, 1, 0), 0);
        says("Returns the number of isomorphisms (0 if the numbers of points are different), or the code of the isomorphism "
            + "with this index");
        maps.flip(0, 6);
        maps.flip(1, 5);
        due(maps.like(0, 1, -1), 0);
        due(maps.like(1, 0, -1), 0);
        maps.group(1, 2, 6);
        due(maps.like(0, 1, -1), 0);
        due(maps.like(1, 1, -1), 6);
        due(maps.like(1, 1, 0), identity(6));
        says("NONE if there are not so many");
        maps.flip(0, 6);
        maps.flip(1, 1);
        due(maps.like(0, 0, 720), NONE);
        due(maps.like(1, 1, 1), NONE);
        due(maps.like(0, 1, 0), NONE);
        due(maps.like(1, 0, 0), NONE);
        maps.group(1, 2, 6);
        due(maps.like(1, 1, 6), NONE);
        due(maps.like(0, 1, 0), NONE);
        due(maps.like(1, 1, HIGH), NONE);
        says("UNKNOWN if there is no such map");
        maps.flip(0, 2);
        for (int i = -2; i <= 0; i++) {
            due(maps.like(0, 1, i), UNKNOWN);
            due(maps.like(1, 0, i), UNKNOWN);
            for (int place : NOT_OF_FOUR) {
                due(maps.like(0, place, i), UNKNOWN);
                due(maps.like(place, 0, i), UNKNOWN);
            }
        }
        says("OUTSIDE if i is less than -1.");
        maps.flip(0, 2);
        maps.flip(1, 3);
        for (int i : new int[] {-2, -3, LOW}) {
            due(maps.like(0, 0, i), OUTSIDE);
            due(maps.like(0, 1, i), OUTSIDE);
        }
    }
}
