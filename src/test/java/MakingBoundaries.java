/** The sentences of the promises 1 to 14: the maps that are made. */
final class MakingBoundaries extends Sentences {
    private MakingBoundaries() {
    }

    static void check() {
        newObject();
        flip();
        twist();
        group();
        brace();
        braces();
        put();
        retract();
        unite();
        pair();
        invert();
        mirror();
        rename();
        drop();
    }

    private static void newObject() {
        under("Promise 1: A new object");
        says("Creates an object with empty places and empty braids.");
        for (int what = 0; what < 4; what++) {
            due(maps.count(what), 0);
        }
        for (int place = 0; place < 4; place++) {
            due(maps.drop(place), UNKNOWN);
        }
        due(maps.erase(0), 0);
        due(maps.erase(1), 0);
        maps.flip(0, 6);
        maps.write(0, 'a');
        // What one object holds, another one does not.
        due(new ThreeStrandMaps().count(0), 0);
        due(new ThreeStrandMaps().count(2), 0);
    }

    private static void flip() {
        under("Promise 2: flip");
        says("Makes the flip.");
        maps.flip(0, 6);
        cells(0, 0, 5, 5, 0);
        cells(0, 5, 0, 0, 5);
        cells(0, 5, 5, 5, 5);
        says("to: the place of the new map, 0 to 3");
        due(maps.flip(0, 2), 2);
        due(maps.flip(3, 4), 4);
        due(maps.count(0), 2);
        due(maps.whole(0, 0), 2);
        due(maps.whole(3, 0), 4);
        says("n: the number of points, 1 to 6");
        due(maps.flip(0, 1), 1);
        due(maps.whole(0, 0), 1);
        due(maps.flip(0, 6), 6);
        due(maps.whole(0, 0), 6);
        says("Returns n");
        for (int n = 1; n <= 6; n++) {
            due(maps.flip(1, n), n);
        }
        says("UNKNOWN if there is no such place");
        for (int place : NOT_OF_FOUR) {
            due(maps.flip(place, 1), UNKNOWN);
            due(maps.flip(place, 6), UNKNOWN);
            due(maps.flip(place, 7), UNKNOWN);
        }
        due(maps.count(0), 0);
        says("OUTSIDE if n is out of range.");
        maps.flip(0, 3);
        for (int n : new int[] {0, 7, -1, 8, LOW, HIGH}) {
            due(maps.flip(0, n), OUTSIDE);
            due(maps.flip(1, n), OUTSIDE);
        }
        due(maps.whole(0, 0), 3);
        due(maps.count(0), 1);
    }

    private static void twist() {
        under("Promise 3: twist");
        says("Makes a twist.");
        due(maps.twist(0, 2, code(1, 0), code(0, 1)), 2);
        cellsAre(0, "10 00", "11 01");
        due(maps.twist(0, 2, code(0, 1), code(1, 0)), 2);
        cellsAre(0, "01 11", "00 10");
        says("to: the place of the new map, 0 to 3");
        due(maps.twist(0, 1, 0, 0), 1);
        due(maps.twist(3, 1, 0, 0), 1);
        due(maps.count(0), 2);
        says("n: the number of points, 1 to 6");
        due(maps.twist(0, 1, 0, 0), 1);
        due(maps.twist(0, 6, identity(6), identity(6)), 6);
        due(maps.whole(0, 0), 6);
        says("f: the code of the permutation f of n points");
        due(maps.twist(0, 6, code(5, 4, 3, 2, 1, 0), identity(6)), 6);
        cells(0, 0, 5, 0, 0);
        cells(0, 5, 0, 5, 5);
        says("g: the code of the permutation g of n points");
        due(maps.twist(0, 6, identity(6), code(5, 4, 3, 2, 1, 0)), 6);
        cells(0, 0, 5, 5, 5);
        cells(0, 5, 0, 0, 0);
        says("Returns n");
        for (int n = 1; n <= 6; n++) {
            due(maps.twist(0, n, identity(n), identity(n)), n);
        }
        says("UNKNOWN if there is no such place");
        for (int place : NOT_OF_FOUR) {
            due(maps.twist(place, 2, code(1, 0), code(1, 0)), UNKNOWN);
            due(maps.twist(place, 7, 0, 0), UNKNOWN);
            due(maps.twist(place, 2, -1, -1), UNKNOWN);
        }
        due(maps.count(0), 0);
        says("OUTSIDE if n is out of range, or f or g is not such a code.");
        maps.flip(0, 1);
        for (int n : new int[] {0, 7, -1, LOW, HIGH}) {
            due(maps.twist(0, n, 0, 0), OUTSIDE);
            due(maps.twist(0, n, identity(6), identity(6)), OUTSIDE);
            due(maps.twist(0, n, identity(7), identity(7)), OUTSIDE);
        }
        for (int n = 1; n <= 6; n++) {
            int good = identity(n);
            // A digit too large, one digit too many, one number twice, a sign.
            for (int bad : new int[] {good + (1 << 3 * (n - 1)), good | 1 << 3 * n, good ^ 1, -1, LOW, HIGH}) {
                due(maps.twist(0, n, bad, good), OUTSIDE);
                due(maps.twist(0, n, good, bad), OUTSIDE);
            }
        }
        due(maps.whole(0, 0), 1);
    }

    private static void group() {
        under("Promise 4: group");
        says("Makes the map of a group.");
        maps.group(0, 2, 6);
        cells(0, 1, 3, 5, 1);
        cells(0, 3, 1, 2, 3);
        cells(0, 5, 3, 4, 5);
        says("to: the place of the new map, 0 to 3");
        due(maps.group(0, 0, 1), 1);
        due(maps.group(3, 0, 1), 1);
        due(maps.count(0), 2);
        says("kind: the kind of the group, 0 to 2");
        due(maps.group(0, 0, 6), 6);
        due(maps.whole(0, 4), 1);
        due(maps.group(0, 2, 6), 6);
        due(maps.whole(0, 4), 0);
        says("n: the number of points, as the kind requires");
        for (int n = 0; n <= 7; n++) {
            due(maps.group(0, 0, n), n >= 1 && n <= 6 ? n : OUTSIDE);
            due(maps.group(0, 1, n), n == 4 ? n : OUTSIDE);
            due(maps.group(0, 2, n), n == 6 ? n : OUTSIDE);
        }
        says("Returns n");
        due(maps.group(0, 0, 1), 1);
        due(maps.group(0, 0, 6), 6);
        due(maps.group(0, 1, 4), 4);
        says("UNKNOWN if there is no such place");
        for (int place : NOT_OF_FOUR) {
            due(maps.group(place, 0, 6), UNKNOWN);
            due(maps.group(place, 3, 6), UNKNOWN);
            due(maps.group(place, 1, 5), UNKNOWN);
        }
        due(maps.count(0), 0);
        says("OUTSIDE if kind is out of range, or n is not as required.");
        maps.flip(0, 2);
        for (int kind : new int[] {-1, 3, LOW, HIGH}) {
            due(maps.group(0, kind, 4), OUTSIDE);
            due(maps.group(0, kind, 6), OUTSIDE);
        }
        for (int n : new int[] {0, 7, -1, LOW, HIGH}) {
            for (int kind = 0; kind < 3; kind++) {
                due(maps.group(0, kind, n), OUTSIDE);
            }
        }
        due(maps.whole(0, 0), 2);
    }

    private static void brace() {
        under("Promise 5: brace");
        says("Makes the map of a brace.");
        due(maps.brace(0, 4, code(1, 3, 1, 3)), 4);
        cellsAre(0, "00 10 20 30", "01 33 21 13", "02 12 22 32", "03 31 23 11");
        says("to: the place of the new map, 0 to 3");
        due(maps.brace(0, 2, code(1, 1)), 2);
        due(maps.brace(3, 2, code(1, 1)), 2);
        due(maps.count(0), 2);
        says("n: the number of points, 2 to 6");
        due(maps.brace(0, 2, code(1, 1)), 2);
        due(maps.brace(0, 6, code(1, 1, 1, 1, 1, 1)), 6);
        due(maps.whole(0, 0), 6);
        says("u: the code of u(0) to u(n - 1)");
        due(maps.brace(0, 6, code(1, 5, 1, 5, 1, 5)), 6);
        cells(0, 0, 5, 5, 0);
        cells(0, 1, 5, 1, 5);
        cells(0, 5, 0, 0, 5);
        says("Returns n");
        for (int n = 2; n <= 6; n++) {
            due(maps.brace(0, n, maps.braces(n, 0)), n);
        }
        says("UNKNOWN if there is no such place");
        for (int place : NOT_OF_FOUR) {
            due(maps.brace(place, 2, code(1, 1)), UNKNOWN);
            due(maps.brace(place, 7, -1), UNKNOWN);
            due(maps.brace(place, 4, code(1, 1, 1, 3)), UNKNOWN);
        }
        due(maps.count(0), 0);
        says("OUTSIDE if n is out of range, or u is not the code of n numbers from 1 to n - 1 that are coprime to n");
        maps.flip(0, 1);
        for (int n : new int[] {1, 7, 0, -1, LOW, HIGH}) {
            due(maps.brace(0, n, 1), OUTSIDE);
            due(maps.brace(0, n, 0), OUTSIDE);
            due(maps.brace(0, n, code(1, 1, 1, 1, 1, 1)), OUTSIDE);
            due(maps.brace(0, n, code(1, 1, 1, 1, 1, 1, 1)), OUTSIDE);
        }
        for (int n = 2; n <= 6; n++) {
            int ones = maps.braces(n, 0);
            for (int bad : new int[] {0, ones - 1, ones - (1 << 3 * (n - 1)), ones - 1 + n, ones + (n - 1 << 3 * (n - 1)),
                    ones | 1 << 3 * n, -1, LOW | ones, HIGH}) {
                due(maps.brace(0, n, bad), OUTSIDE);
            }
        }
        due(maps.brace(0, 4, code(1, 1, 1, 2)), OUTSIDE);
        due(maps.brace(0, 6, code(2, 1, 1, 1, 1, 1)), OUTSIDE);
        due(maps.brace(0, 6, code(1, 1, 1, 1, 1, 4)), OUTSIDE);
        due(maps.whole(0, 0), 1);
        says("NOT if they are not a brace.");
        maps.flip(0, 2);
        due(maps.brace(0, 3, code(2, 2, 2)), NOT);
        due(maps.brace(0, 3, code(1, 1, 2)), NOT);
        due(maps.brace(0, 4, code(1, 1, 1, 3)), NOT);
        due(maps.brace(0, 4, code(1, 3, 3, 3)), NOT);
        due(maps.brace(0, 5, code(1, 1, 1, 1, 2)), NOT);
        due(maps.brace(0, 5, code(4, 4, 4, 4, 4)), NOT);
        due(maps.brace(0, 6, code(1, 1, 1, 1, 1, 5)), NOT);
        due(maps.brace(0, 6, code(5, 5, 5, 5, 5, 5)), NOT);
        due(maps.whole(0, 0), 2);
    }

    private static void braces() {
        under("Promise 6: braces");
        says("Lists the codes of all braces, in ascending order.");
        for (int n = 2; n <= 6; n++) {
            due(maps.braces(n, 0), code(1, 1, 1, 1, 1, 1) & (1 << 3 * n) - 1);
        }
        due(maps.braces(4, 1), code(1, 3, 1, 3));
        due(maps.braces(6, 1), code(1, 5, 1, 5, 1, 5));
        says("n: the number of points, 2 to 6");
        due(maps.braces(2, -1), 1);
        due(maps.braces(6, -1), 2);
        says("i: -1 for the number of codes, or an index from 0");
        due(maps.braces(3, -1), 1);
        due(maps.braces(4, -1), 2);
        due(maps.braces(5, -1), 1);
        due(maps.braces(3, 0), code(1, 1, 1));
        says("Returns the number of codes, or the code with this index");
        int[] numbers = {0, 0, 1, 1, 2, 1, 2};
        for (int n = 2; n <= 6; n++) {
            due(maps.braces(n, -1), numbers[n]);
            for (int i = 0; i < numbers[n]; i++) {
                due(maps.brace(0, n, maps.braces(n, i)), n);
            }
        }
        says("NONE if there are not so many");
        for (int n = 2; n <= 6; n++) {
            due(maps.braces(n, maps.braces(n, -1)), NONE);
            due(maps.braces(n, HIGH), NONE);
        }
        says("OUTSIDE if n is out of range, or i is less than -1.");
        for (int n : new int[] {1, 7, 0, -1, LOW, HIGH}) {
            due(maps.braces(n, -1), OUTSIDE);
            due(maps.braces(n, 0), OUTSIDE);
            due(maps.braces(n, HIGH), OUTSIDE);
        }
        for (int n = 2; n <= 6; n++) {
            due(maps.braces(n, -2), OUTSIDE);
            due(maps.braces(n, LOW), OUTSIDE);
        }
    }

    private static void put() {
        under("Promise 7: put");
        says("Changes the image of a pair.");
        maps.flip(0, 2);
        maps.put(0, 0, 1, 0, 1);
        cellsAre(0, "00 01", "01 11");
        maps.put(0, 1, 1, 0, 0);
        cellsAre(0, "00 01", "01 00");
        says("map: the place of the map");
        maps.flip(0, 2);
        maps.flip(3, 2);
        due(maps.put(3, 0, 0, 1, 1), 0);
        due(maps.put(0, 0, 0, 0, 1), 0);
        cells(3, 0, 0, 1, 1);
        cells(0, 0, 0, 0, 1);
        says("x: a point");
        maps.flip(0, 6);
        due(maps.put(0, 5, 0, 1, 2), code(0, 5));
        cells(0, 5, 0, 1, 2);
        says("y: a point");
        maps.flip(0, 6);
        due(maps.put(0, 0, 5, 1, 2), code(5, 0));
        cells(0, 0, 5, 1, 2);
        says("left: the new L(x, y), a point");
        maps.flip(0, 6);
        due(maps.put(0, 1, 1, 5, 1), code(1, 1));
        cells(0, 1, 1, 5, 1);
        due(maps.put(0, 1, 1, 0, 1), code(5, 1));
        cells(0, 1, 1, 0, 1);
        says("right: the new R(x, y), a point");
        maps.flip(0, 6);
        due(maps.put(0, 1, 1, 1, 5), code(1, 1));
        cells(0, 1, 1, 1, 5);
        due(maps.put(0, 1, 1, 1, 0), code(1, 5));
        cells(0, 1, 1, 1, 0);
        says("Returns the code of the previous L(x, y) and R(x, y)");
        maps.flip(0, 6);
        due(maps.put(0, 5, 5, 4, 3), code(5, 5));
        due(maps.put(0, 5, 5, 4, 3), code(4, 3));
        due(maps.put(0, 5, 5, 0, 0), code(4, 3));
        due(maps.put(0, 5, 5, 5, 5), 0);
        maps.flip(1, 1);
        due(maps.put(1, 0, 0, 0, 0), 0);
        says("UNKNOWN if there is no such map, or one of the others is not a point of it.");
        maps.flip(0, 3);
        for (int bad : new int[] {-1, 3, 6, 7, 8, 64, LOW, HIGH}) {
            due(maps.put(0, bad, 2, 0, 0), UNKNOWN);
            due(maps.put(0, 2, bad, 0, 0), UNKNOWN);
            due(maps.put(0, 2, 2, bad, 0), UNKNOWN);
            due(maps.put(0, 2, 2, 0, bad), UNKNOWN);
        }
        maps.flip(1, 1);
        due(maps.put(1, 1, 0, 0, 0), UNKNOWN);
        due(maps.put(1, 0, 0, 0, 1), UNKNOWN);
        due(maps.put(2, 0, 0, 0, 0), UNKNOWN);
        for (int place : NOT_OF_FOUR) {
            due(maps.put(place, 0, 0, 0, 0), UNKNOWN);
        }
        cellsAre(0, "00 10 20", "01 11 21", "02 12 22");
    }

    private static void retract() {
        under("Promise 8: retract");
        says("Makes the retraction of a map.");
        maps.brace(0, 4, code(1, 3, 1, 3));
        due(maps.retract(0, 1), 2);
        cellsAre(1, "00 10", "01 11");
        due(maps.whole(0, 0), 4);
        says("map: the place of the map");
        maps.flip(3, 2);
        due(maps.retract(3, 0), 1);
        due(maps.retract(0, 3), 1);
        due(maps.whole(3, 0), 1);
        says("to: the place of the new map, 0 to 3");
        maps.flip(1, 2);
        due(maps.retract(1, 0), 1);
        due(maps.retract(1, 3), 1);
        due(maps.count(0), 3);
        due(maps.retract(1, 1), 1);
        due(maps.count(1), 3);
        says("Returns the number of its points");
        for (int n = 1; n <= 6; n++) {
            maps.flip(0, n);
            due(maps.retract(0, 1), 1);
        }
        // No two points are alike: the new map is as the old one.
        maps.group(0, 2, 6);
        due(maps.retract(0, 1), 6);
        due(maps.like(0, 1, 0), identity(6));
        says("UNKNOWN if there is no such map or place.");
        maps.flip(0, 2);
        due(maps.retract(1, 0), UNKNOWN);
        for (int place : NOT_OF_FOUR) {
            due(maps.retract(place, 0), UNKNOWN);
            due(maps.retract(0, place), UNKNOWN);
        }
        due(maps.whole(0, 0), 2);
        due(maps.count(0), 1);
    }

    private static void unite() {
        under("Promise 9: unite");
        says("Makes the union of two maps, which may be the same.");
        maps.twist(0, 2, code(1, 0), code(0, 1));
        due(maps.unite(0, 0, 1), 4);
        cellsAre(1, "10 00 20 30", "11 01 21 31", "02 12 32 22", "03 13 33 23");
        due(maps.unite(0, 0, 0), 4);
        due(maps.like(0, 1, 0), identity(4));
        says("a: the place of the first map");
        maps.twist(0, 2, code(1, 0), code(0, 1));
        maps.flip(3, 1);
        due(maps.unite(0, 3, 1), 3);
        cells(1, 0, 0, 1, 0);
        due(maps.unite(3, 0, 1), 3);
        cells(1, 0, 0, 0, 0);
        says("b: the place of the second map");
        maps.flip(0, 1);
        maps.twist(3, 2, code(1, 0), code(0, 1));
        due(maps.unite(0, 3, 1), 3);
        cells(1, 2, 2, 1, 2);
        due(maps.unite(3, 0, 1), 3);
        cells(1, 2, 2, 2, 2);
        says("to: the place of the new map, 0 to 3");
        maps.flip(1, 1);
        due(maps.unite(1, 1, 0), 2);
        due(maps.unite(1, 1, 3), 2);
        due(maps.count(0), 3);
        says("Returns the number of its points");
        for (int n = 1; n <= 5; n++) {
            maps.flip(0, n);
            maps.flip(1, 6 - n);
            due(maps.unite(0, 1, 2), 6);
            maps.flip(1, 1);
            due(maps.unite(0, 1, 2), n + 1);
        }
        says("UNKNOWN if there is no such map or place");
        maps.flip(0, 6);
        maps.flip(1, 1);
        due(maps.unite(2, 1, 3), UNKNOWN);
        due(maps.unite(1, 2, 3), UNKNOWN);
        for (int place : NOT_OF_FOUR) {
            due(maps.unite(place, 1, 3), UNKNOWN);
            due(maps.unite(1, place, 3), UNKNOWN);
            due(maps.unite(1, 1, place), UNKNOWN);
            due(maps.unite(0, 1, place), UNKNOWN);
        }
        due(maps.count(1), 7);
        says("FULL if it would have more than 6 points.");
        for (int n = 1; n <= 6; n++) {
            maps.flip(0, n);
            maps.flip(1, 7 - n);
            due(maps.unite(0, 1, 2), FULL);
            due(maps.unite(0, 1, 0), FULL);
            due(maps.whole(0, 0), n);
        }
        maps.flip(0, 3);
        due(maps.unite(0, 0, 1), 6);
        due(maps.unite(1, 1, 2), FULL);
        maps.flip(0, 4);
        due(maps.unite(0, 0, 2), FULL);
        due(maps.whole(2, 0), UNKNOWN);
    }

    private static void pair() {
        under("Promise 10: pair");
        says("Makes the product of two maps, which may be the same.");
        fill(0, "11 00", "10 01");
        due(maps.pair(0, 0, 1), 4);
        cells(1, 0, 0, 3, 3);
        cells(1, 0, 1, 2, 2);
        cells(1, 2, 1, 2, 0);
        cells(1, 3, 3, 0, 3);
        due(maps.pair(0, 0, 0), 4);
        due(maps.like(0, 1, 0), identity(4));
        says("a: the place of the first map");
        maps.twist(0, 2, code(1, 0), code(0, 1));
        maps.flip(3, 3);
        due(maps.pair(0, 3, 1), 6);
        cells(1, 0, 1, 4, 0);
        says("b: the place of the second map");
        maps.flip(0, 3);
        maps.twist(3, 2, code(1, 0), code(0, 1));
        due(maps.pair(0, 3, 1), 6);
        cells(1, 0, 2, 3, 0);
        says("to: the place of the new map, 0 to 3");
        maps.flip(1, 1);
        due(maps.pair(1, 1, 0), 1);
        due(maps.pair(1, 1, 3), 1);
        due(maps.count(0), 3);
        says("Returns the number of its points");
        for (int n = 1; n <= 6; n++) {
            maps.flip(0, n);
            maps.flip(1, 6 / n);
            due(maps.pair(0, 1, 2), n * (6 / n));
            due(maps.pair(1, 0, 2), n * (6 / n));
        }
        says("Returns the number of its points");
        // One point more or less in a component changes nothing else.
        fillCycles(0, 6, 36);
        maps.flip(1, 1);
        due(maps.pair(0, 1, 2), 6);
        due(maps.like(0, 2, 0), identity(6));
        due(maps.pair(1, 0, 2), 6);
        due(maps.like(0, 2, 0), identity(6));
        for (int n = 2; n <= 3; n++) {
            productIsFull(n, 6 / n);
        }
        says("UNKNOWN if there is no such map or place");
        maps.flip(0, 6);
        maps.flip(1, 2);
        due(maps.pair(2, 1, 3), UNKNOWN);
        due(maps.pair(1, 2, 3), UNKNOWN);
        for (int place : NOT_OF_FOUR) {
            due(maps.pair(place, 1, 3), UNKNOWN);
            due(maps.pair(1, place, 3), UNKNOWN);
            due(maps.pair(1, 1, place), UNKNOWN);
            due(maps.pair(0, 1, place), UNKNOWN);
        }
        due(maps.count(1), 8);
        says("FULL if it would have more than 6 points.");
        for (int n = 2; n <= 6; n++) {
            maps.flip(0, n);
            maps.flip(1, 6 / n + 1);
            due(maps.pair(0, 1, 2), FULL);
            due(maps.pair(1, 0, 2), FULL);
            due(maps.pair(0, 1, 0), FULL);
            due(maps.whole(0, 0), n);
        }
        maps.flip(0, 3);
        due(maps.pair(0, 0, 2), FULL);
        maps.flip(0, 6);
        due(maps.pair(0, 0, 2), FULL);
        due(maps.whole(2, 0), UNKNOWN);
    }

    /** A product with six points, all of its 36 pairs. */
    private static void productIsFull(int n, int m) {
        maps = new ThreeStrandMaps();
        fillCycles(0, n, n * n);
        fillCycles(1, m, m * m);
        due(maps.pair(0, 1, 2), 6);
        for (int pair = 0; pair < 36; pair++) {
            int x = pair / 6;
            int y = pair % 6;
            // Each component goes on to the pair that follows in its own cycle.
            int first = (x / m * n + y / m + 1) % (n * n);
            int second = (x % m * m + y % m + 1) % (m * m);
            cells(2, x, y, first / n * m + second / m, first % n * m + second % m);
        }
    }

    private static void invert() {
        under("Promise 11: invert");
        says("Makes the inverse of a map.");
        fillCycles(0, 6, 36);
        due(maps.invert(0, 1), 6);
        // What was the last pair of the cycle comes before the first one.
        cells(1, 0, 0, 5, 5);
        cells(1, 5, 5, 5, 4);
        cells(1, 1, 0, 0, 5);
        says("map: the place of the map");
        maps.twist(3, 2, code(1, 0), code(0, 1));
        due(maps.invert(3, 0), 2);
        // r(0, 0) = (1, 0) and r(0, 1) = (0, 0).
        cellsAre(0, "01 11", "00 10");
        says("to: the place of the new map, 0 to 3");
        maps.twist(1, 2, code(1, 0), code(0, 1));
        due(maps.invert(1, 0), 2);
        due(maps.invert(1, 3), 2);
        due(maps.count(0), 3);
        due(maps.invert(1, 1), 2);
        due(maps.like(0, 1, 0), identity(2));
        says("Returns the number of its points");
        for (int n = 1; n <= 6; n++) {
            maps.flip(0, n);
            due(maps.invert(0, 1), n);
            due(maps.like(0, 1, 0), identity(n));
        }
        says("UNKNOWN if there is no such map or place");
        fill(0, "00 00", "00 00");
        due(maps.invert(1, 0), UNKNOWN);
        for (int place : NOT_OF_FOUR) {
            due(maps.invert(place, 1), UNKNOWN);
            due(maps.invert(0, place), UNKNOWN);
        }
        due(maps.count(0), 1);
        says("NOT if the map is not bijective.");
        for (int n = 2; n <= 6; n++) {
            maps.flip(0, n);
            maps.put(0, n - 1, n - 1, 0, 0);
            due(maps.invert(0, 1), NOT);
            due(maps.invert(0, 0), NOT);
            cells(0, n - 1, n - 1, 0, 0);
            maps.put(0, n - 1, n - 1, n - 1, n - 1);
            maps.put(0, 0, 0, n - 1, n - 1);
            due(maps.invert(0, 1), NOT);
        }
        due(maps.count(0), 1);
    }

    private static void mirror() {
        under("Promise 12: mirror");
        says("Makes the mirror of a map.");
        fill(0, "01 00", "10 10");
        due(maps.mirror(0, 1), 2);
        cellsAre(1, "10 01", "00 01");
        says("map: the place of the map");
        maps.flip(3, 2);
        maps.put(3, 1, 0, 1, 1);
        due(maps.mirror(3, 0), 2);
        cells(0, 0, 1, 1, 1);
        says("to: the place of the new map, 0 to 3");
        maps.flip(1, 2);
        maps.put(1, 1, 0, 1, 1);
        due(maps.mirror(1, 0), 2);
        due(maps.mirror(1, 3), 2);
        due(maps.count(0), 3);
        due(maps.mirror(1, 1), 2);
        due(maps.like(0, 1, 0), identity(2));
        says("Returns the number of its points");
        for (int n = 1; n <= 6; n++) {
            maps.flip(0, n);
            due(maps.mirror(0, 1), n);
            due(maps.like(0, 1, 0), identity(n));
        }
        says("UNKNOWN if there is no such map or place.");
        maps.flip(0, 2);
        due(maps.mirror(1, 0), UNKNOWN);
        for (int place : NOT_OF_FOUR) {
            due(maps.mirror(place, 0), UNKNOWN);
            due(maps.mirror(0, place), UNKNOWN);
        }
        due(maps.count(0), 1);
    }

    private static void rename() {
        under("Promise 13: rename");
        says("Makes a renamed map.");
        maps.twist(0, 3, code(1, 2, 0), code(0, 2, 1));
        due(maps.rename(0, code(1, 2, 0), 1), 3);
        cellsAre(1, "12 22 02", "11 21 01", "10 20 00");
        says("map: the place of the map");
        maps.flip(3, 2);
        maps.put(3, 0, 0, 0, 1);
        due(maps.rename(3, code(1, 0), 0), 2);
        cells(0, 1, 1, 1, 0);
        says("f: the code of the permutation f of its points");
        for (int n = 1; n <= 6; n++) {
            maps.flip(0, n);
            maps.put(0, 0, 0, n - 1, 0);
            due(maps.rename(0, identity(n), 1), n);
            cells(1, 0, 0, n - 1, 0);
            due(maps.rename(0, code(5, 4, 3, 2, 1, 0) >> 3 * (6 - n), 1), n);
            cells(1, n - 1, n - 1, 0, n - 1);
        }
        says("to: the place of the new map, 0 to 3");
        maps.flip(1, 2);
        maps.put(1, 0, 0, 0, 1);
        due(maps.rename(1, code(1, 0), 0), 2);
        due(maps.rename(1, code(1, 0), 3), 2);
        due(maps.count(0), 3);
        due(maps.rename(1, code(1, 0), 1), 2);
        cells(1, 1, 1, 1, 0);
        says("Returns the number of its points");
        for (int n = 1; n <= 6; n++) {
            maps.flip(0, n);
            due(maps.rename(0, identity(n), 0), n);
        }
        says("UNKNOWN if there is no such map or place");
        maps.flip(0, 2);
        due(maps.rename(1, code(1, 0), 0), UNKNOWN);
        due(maps.rename(1, -1, 0), UNKNOWN);
        for (int place : NOT_OF_FOUR) {
            due(maps.rename(place, code(1, 0), 0), UNKNOWN);
            due(maps.rename(0, code(1, 0), place), UNKNOWN);
            due(maps.rename(0, -1, place), UNKNOWN);
        }
        due(maps.count(0), 1);
        says("OUTSIDE if f is not the code of a permutation of the points.");
        for (int n = 1; n <= 6; n++) {
            maps.flip(0, n);
            int good = identity(n);
            for (int bad : new int[] {good + (1 << 3 * (n - 1)), good | 1 << 3 * n, good ^ 1, identity(n + 1), -1, LOW, HIGH}) {
                due(maps.rename(0, bad, 0), OUTSIDE);
                due(maps.rename(0, bad, 1), OUTSIDE);
            }
        }
        due(maps.count(0), 1);
    }

    private static void drop() {
        under("Promise 14: drop");
        says("Makes a place empty.");
        maps.flip(0, 2);
        maps.flip(1, 3);
        maps.drop(0);
        due(maps.whole(0, 0), UNKNOWN);
        due(maps.put(0, 0, 0, 0, 0), UNKNOWN);
        due(maps.unite(0, 1, 2), UNKNOWN);
        due(maps.whole(1, 0), 3);
        due(maps.count(0), 1);
        due(maps.count(1), 3);
        due(maps.flip(0, 2), 2);
        says("map: the place of the map");
        for (int place = 0; place < 4; place++) {
            maps.flip(place, place + 2);
        }
        due(maps.drop(3), 5);
        due(maps.drop(0), 2);
        due(maps.count(1), 3 + 4);
        says("Returns the number of points that its map had");
        for (int n = 1; n <= 6; n++) {
            maps.flip(2, n);
            due(maps.drop(2), n);
        }
        says("UNKNOWN if there is no such map.");
        for (int place : NOT_OF_FOUR) {
            due(maps.drop(place), UNKNOWN);
        }
        maps.flip(1, 4);
        due(maps.drop(0), UNKNOWN);
        due(maps.drop(1), 4);
        due(maps.drop(1), UNKNOWN);
    }
}
