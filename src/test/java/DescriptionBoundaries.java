/** The sentences of the document's "Description", for the calls that the promises make of it. */
final class DescriptionBoundaries extends Sentences {
    /** How many maps the lists for 1 to 4 points have. */
    private static final int[] SIZES = {1, 2, 5, 23};

    private DescriptionBoundaries() {
    }

    static void check() {
        lifeOfAnObject();
        numbers();
        places();
        madeFromOthers();
        flipsAndTwists();
        groups();
        braces();
        retraction();
        unionAndProduct();
        inverseMirrorRenaming();
        braidEquation();
        simpleProperties();
        orbits();
        closedSets();
        levels();
        isomorphisms();
        equivalentWords();
        braids();
        lists();
    }

    private static void lifeOfAnObject() {
        under("What it is");
        says("A laboratory for set-theoretic solutions of the Yang-Baxter equation (braid equation) on small sets.");
        due(maps.flip(0, 6), 6);
        due(maps.whole(0, 1), 1);
        says("An object is used for at most 512 calls after it has been made");
        for (int call = 1; call <= 511; call++) {
            due(maps.write(1, 'a'), call <= 24 ? call : FULL);
        }
        due(maps.count(3), 24);
        says("at most 512 calls");
        maps.flip(0, 6);
        for (int call = 2; call <= 511; call++) {
            maps.put(0, call % 6, call / 6 % 6, call % 5, call % 4);
        }
        // The last change of this pair was call 509.
        due(maps.put(0, 5, 0, 0, 0), code(509 % 5, 509 % 4));
        says("what later calls answer is free");
        for (int call = 1; call <= 512; call++) {
            maps.flip(call % 4, 6);
        }
        due(new ThreeStrandMaps().count(0), 0);
    }

    private static void numbers() {
        under("Numbers");
        says("Everything that is numbered is numbered from 0.");
        due(maps.flip(0, 1), 1);
        due(maps.cell(0, 0, 0, 0), 0);
        due(maps.alike(0, 0), 0);
        due(maps.like(0, 0, 0), 0);
        due(maps.write(0, 'a'), 1);
        due(maps.take(1, 0, 0), 1);
        due(maps.braces(2, 0), code(1, 1));
        due(maps.flip(4, 1), UNKNOWN);
        due(maps.cell(0, 1, 0, 0), UNKNOWN);
        due(maps.write(2, 'a'), UNKNOWN);
        says("Sets are bit masks: bit k stands for element k.");
        maps.flip(0, 6);
        for (int k = 0; k < 6; k++) {
            due(maps.orbit(0, k), 1 << k);
            due(maps.shut(0, 1 << k), 1 << k);
        }
        says("Several numbers from 0 to 7 are given as one number, their code: the first one plus 8 times the second one "
            + "plus 64 times the third one, and so on");
        maps.flip(0, 6);
        due(maps.put(0, 5, 1, 0, 0), 1 + 8 * 5);
        due(maps.least(0, 3, 5 + 8 * 4 + 64 * 3), 3 + 8 * 4 + 64 * 5);
        due(maps.least(0, 4, 5 + 8 * 5 + 64 * 5 + 512 * 5), 5 + 8 * 5 + 64 * 5 + 512 * 5);
        due(maps.through(0, 0, 4, 0), 0);
        moreBits();
        says("A permutation f of the points 0 to n - 1 is given by the code of f(0), f(1), ..., f(n - 1).");
        due(maps.twist(0, 6, code(1, 2, 3, 4, 5, 0), code(5, 0, 1, 2, 3, 4)), 6);
        cells(0, 0, 0, 1, 5);
        cells(0, 5, 5, 0, 4);
        due(maps.twist(0, 1, 0, 0), 1);
        due(maps.twist(0, 3, code(0, 1, 1), identity(3)), OUTSIDE);
        due(maps.twist(0, 3, code(1, 2, 3), identity(3)), OUTSIDE);
        due(maps.twist(0, 3, code(1, 0), identity(3)), OUTSIDE);
        due(maps.twist(0, 3, identity(4), identity(3)), OUTSIDE);
        says("Sequences of numbers are ordered lexicographically.");
        maps.flip(0, 3);
        due(maps.like(0, 0, 1), code(0, 2, 1));
        due(maps.like(0, 0, 2), code(1, 0, 2));
        // The code of 0, 1 is greater than that of 1, 0.
        due(maps.least(0, 2, code(1, 0)), code(0, 1));
        letters(0, "b");
        due(maps.part(0, 3), code(0, 0, 1));
        maps.twist(0, 3, code(1, 2, 0), code(0, 2, 1));
        due(maps.fails(0, 1), code(0, 0, 1));
    }

    private static void moreBits() {
        says("a code has no other bits.");
        maps.flip(0, 2);
        int swap = code(1, 0);
        for (int bit = 6; bit < 32; bit++) {
            int more = swap | 1 << bit;
            due(maps.twist(1, 2, more, swap), OUTSIDE);
            due(maps.twist(1, 2, swap, more), OUTSIDE);
            due(maps.rename(0, more, 1), OUTSIDE);
            due(maps.least(0, 2, more), OUTSIDE);
            due(maps.through(0, 0, 2, more), OUTSIDE);
            due(maps.brace(1, 2, code(1, 1) | 1 << bit), OUTSIDE);
        }
        says("a code has no other bits");
        maps.flip(0, 6);
        int ones = code(1, 1, 1, 1, 1, 1);
        for (int bit = 12; bit < 32; bit++) {
            due(maps.least(0, 4, code(1, 1, 1, 1) | 1 << bit), OUTSIDE);
            due(maps.through(0, 0, 4, code(1, 1, 1, 1) | 1 << bit), OUTSIDE);
        }
        for (int bit = 18; bit < 32; bit++) {
            due(maps.twist(1, 6, identity(6) | 1 << bit, identity(6)), OUTSIDE);
            due(maps.twist(1, 6, identity(6), identity(6) | 1 << bit), OUTSIDE);
            due(maps.rename(0, identity(6) | 1 << bit, 1), OUTSIDE);
            due(maps.brace(1, 6, ones | 1 << bit), OUTSIDE);
        }
        due(maps.count(0), 1);
    }

    private static void places() {
        under("Maps");
        says("There are four places, 0 to 3, each of which is empty (at first) or holds a map.");
        for (int place = 0; place < 4; place++) {
            due(maps.whole(place, 0), UNKNOWN);
        }
        for (int place = 0; place < 4; place++) {
            due(maps.flip(place, place + 1), place + 1);
        }
        for (int place = 0; place < 4; place++) {
            due(maps.whole(place, 0), place + 1);
        }
        for (int place : NOT_OF_FOUR) {
            due(maps.flip(place, 1), UNKNOWN);
            due(maps.whole(place, 0), UNKNOWN);
        }
        says("A map r has 1 to 6 points, 0 to n - 1, and assigns to each pair (x, y) of points (x and y may be equal) a "
            + "pair r(x, y) = (L(x, y), R(x, y)) of points.");
        for (int n = 1; n <= 6; n += 5) {
            due(maps.flip(0, n), n);
            due(maps.put(0, n - 1, n - 1, 0, n - 1), code(n - 1, n - 1));
            cells(0, n - 1, n - 1, 0, n - 1);
            due(maps.cell(0, n, 0, 0), UNKNOWN);
            due(maps.cell(0, 0, n, 0), UNKNOWN);
        }
        says("To apply r to two points means to replace them by these two.");
        maps.twist(0, 6, code(1, 2, 3, 4, 5, 0), code(5, 0, 1, 2, 3, 4));
        due(maps.power(0, 5, 5, 1), code(0, 4));
        due(maps.power(0, 0, 3, 2), code(0, 3));
    }

    private static void madeFromOthers() {
        says("A map that is made from other maps is independent of them afterwards.");
        maps.flip(0, 2);
        String[] flip = {"00 10", "01 11"};
        for (int construction = 0; construction < 5; construction++) {
            fill(0, "00 10", "01 11");
            make(construction, 0, 1);
            maps.put(0, 0, 0, 1, 0);
            maps.put(0, 1, 1, 0, 1);
            cellsAre(1, flip);
            maps.put(1, 0, 1, 0, 0);
            cells(0, 0, 1, 1, 0);
        }
        says("A map that is made from other maps is independent of them afterwards");
        maps.flip(0, 2);
        maps.flip(1, 1);
        maps.unite(0, 1, 2);
        maps.put(0, 0, 0, 1, 1);
        maps.drop(1);
        cellsAre(2, "00 10 20", "01 11 21", "02 12 22");
        maps.flip(0, 2);
        maps.retract(0, 3);
        maps.drop(0);
        cellsAre(3, "00");
        maps.take(2, 1, 0);
        maps.put(0, 0, 0, 0, 0);
        maps.take(2, 1, 0);
        cellsAre(0, "11 01", "10 00");
        says("It replaces the map at its place, which may be one of those that it is made from.");
        for (int construction = 0; construction < 5; construction++) {
            fill(0, "01 10", "11 00");
            make(construction, 0, 1);
            make(construction, 0, 0);
            due(maps.whole(0, 0), 2);
            due(maps.like(0, 1, 0), identity(2));
        }
        says("It replaces the map at its place");
        // Of a map with more points, nothing is left.
        fillCycles(0, 6, 35);
        maps.mirror(0, 0);
        int[] properties = {1, 1, 0, 1, 1, 1, 1, 1, 1, 0, 1, 1, 1, 2, 0};
        maps.flip(0, 1);
        for (int what = 0; what < 15; what++) {
            due(maps.whole(0, what), properties[what]);
        }
        due(maps.words(0, 4), 1);
        due(maps.stays(0, 0, 4), 1);
        fillCycles(0, 6, 35);
        maps.mirror(0, 0);
        int[] ofTwo = {2, 1, 0, 1, 1, 1, 1, 1, 2, 1, 1, 2, 2, 4, 0};
        maps.flip(0, 2);
        for (int what = 0; what < 15; what++) {
            due(maps.whole(0, what), ofTwo[what]);
        }
        due(maps.words(0, 4), 5);
        due(maps.fails(0, 0), NONE);
        says("which may be one of those that it is made from");
        maps.flip(1, 1);
        for (int place = 0; place < 2; place++) {
            maps.twist(0, 2, code(1, 0), code(0, 1));
            maps.flip(1, 1);
            due(maps.unite(0, 1, place), 3);
            cellsAre(place, "10 00 20", "11 01 21", "02 12 22");
            due(maps.whole(1 - place, 0), place == 0 ? 1 : 2);
        }
        maps.twist(0, 2, code(1, 0), code(0, 1));
        due(maps.unite(0, 0, 0), 4);
        cellsAre(0, "10 00 20 30", "11 01 21 31", "02 12 32 22", "03 13 33 23");
        maps.twist(0, 2, code(1, 0), code(0, 1));
        due(maps.pair(0, 0, 0), 4);
        cellsAre(0, "30 20 10 00", "31 21 11 01", "32 22 12 02", "33 23 13 03");
        due(maps.retract(0, 0), 1);
    }

    /** Makes a map with as many points as the one that it is made from. */
    private static void make(int construction, int from, int to) {
        maps.flip(3, 1);
        switch (construction) {
            case 0: due(maps.invert(from, to), 2); break;
            case 1: due(maps.mirror(from, to), 2); break;
            case 2: due(maps.rename(from, code(1, 0), to), 2); break;
            case 3: due(maps.pair(from, 3, to), 2); break;
            default: due(maps.pair(3, from, to), 2); break;
        }
    }

    private static void flipsAndTwists() {
        says("Flip: L(x, y) = y, R(x, y) = x.");
        maps.flip(0, 1);
        cellsAre(0, "00");
        maps.flip(0, 6);
        for (int x = 0; x < 6; x++) {
            for (int y = 0; y < 6; y++) {
                cells(0, x, y, y, x);
            }
        }
        says("Twist by permutations f and g: L(x, y) = f(y), R(x, y) = g(x).");
        maps.twist(0, 1, 0, 0);
        cellsAre(0, "00");
        maps.twist(0, 3, code(1, 2, 0), code(0, 2, 1));
        cellsAre(0, "10 20 00", "12 22 02", "11 21 01");
    }

    private static void groups() {
        says("Group: L(x, y) = x * y * (inverse of x), R(x, y) = x, for one of these groups: kind 0, n from 1 to 6, "
            + "x * y = (x + y) mod n");
        for (int n = 1; n <= 6; n++) {
            due(maps.group(0, 0, n), n);
            for (int x = 0; x < n; x++) {
                // What x adds to y, its inverse takes away again, round the end of the numbers or not.
                cells(0, x, 0, 0, x);
                cells(0, x, n - 1, n - 1, x);
            }
        }
        due(maps.group(0, 0, 0), OUTSIDE);
        due(maps.group(0, 0, 7), OUTSIDE);
        says("kind 1, n = 4, x * y = x xor y");
        due(maps.group(0, 1, 4), 4);
        cellsAre(0, "00 10 20 30", "01 11 21 31", "02 12 22 32", "03 13 23 33");
        due(maps.group(0, 1, 3), OUTSIDE);
        due(maps.group(0, 1, 5), OUTSIDE);
        says("kind 2, n = 6, where x = a + 3b stands for (a, b), and (a, b) * (c, d) is ((a + c) mod 3, (b + d) mod 2) if "
            + "b = 0, and ((a - c) mod 3, (b + d) mod 2) if b = 1.");
        due(maps.group(0, 2, 6), 6);
        cellsAre(0, "00 10 20 30 40 50", "01 11 21 51 31 41", "02 12 22 42 52 32", "03 23 13 33 53 43",
            "04 24 14 54 44 34", "05 25 15 45 35 55");
        due(maps.group(0, 2, 5), OUTSIDE);
        due(maps.group(0, 2, 7), OUTSIDE);
        says("The neutral element is 0 in each of them.");
        for (int kind = 0; kind < 3; kind++) {
            int n = kind == 1 ? 4 : 6;
            maps.group(kind, kind, n);
            for (int y = 0; y < n; y++) {
                cells(kind, 0, y, y, 0);
                cells(kind, y, 0, 0, y);
            }
        }
    }

    private static void braces() {
        says("Brace with n from 2 to 6, given by numbers u(0) to u(n - 1) from 1 to n - 1 that are coprime to n.");
        for (int n = 2; n <= 6; n++) {
            int ones = code(1, 1, 1, 1, 1, 1) & (1 << 3 * n) - 1;
            due(maps.brace(0, n, ones), n);
            for (int a = 0; a < n; a++) {
                due(maps.brace(1, n, ones - (1 << 3 * a)), OUTSIDE);
                due(maps.brace(1, n, ones + (n - 1 << 3 * a)), OUTSIDE);
                due(maps.brace(1, n, ones + (n - 2 << 3 * a)), n == 2 ? 2 : NOT);
                maps.drop(1);
            }
        }
        due(maps.brace(1, 4, code(1, 1, 2, 1)), OUTSIDE);
        due(maps.brace(1, 6, code(2, 1, 1, 1, 1, 1)), OUTSIDE);
        due(maps.brace(1, 6, code(1, 1, 1, 1, 1, 3)), OUTSIDE);
        due(maps.brace(1, 6, code(1, 1, 1, 4, 1, 1)), OUTSIDE);
        due(maps.brace(1, 1, 0), OUTSIDE);
        due(maps.brace(1, 1, 1), OUTSIDE);
        due(maps.brace(1, 7, code(1, 1, 1, 1, 1, 1, 1)), OUTSIDE);
        due(maps.count(0), 1);
        says("They are a brace if u((a + u(a) * b) mod n) = (u(a) * u(b)) mod n for all a and b.");
        due(maps.brace(0, 4, code(1, 3, 1, 3)), 4);
        due(maps.brace(0, 6, code(1, 5, 1, 5, 1, 5)), 6);
        // A sign that is not that of a sum round the end of the numbers.
        due(maps.brace(0, 3, code(1, 2, 1)), NOT);
        due(maps.brace(0, 5, code(1, 4, 1, 4, 1)), NOT);
        due(maps.brace(0, 4, code(3, 1, 3, 1)), NOT);
        due(maps.brace(0, 4, code(1, 3, 1, 1)), NOT);
        due(maps.brace(0, 6, code(1, 5, 1, 5, 1, 1)), NOT);
        says("Its map is L(a, b) = (u(a) * b) mod n, and R(a, b) is the c from 0 to n - 1 for which (u(L(a, b)) * c) mod n "
            + "= a.");
        maps.brace(0, 4, code(1, 3, 1, 3));
        cellsAre(0, "00 10 20 30", "01 33 21 13", "02 12 22 32", "03 31 23 11");
        maps.brace(0, 2, code(1, 1));
        cellsAre(0, "00 10", "01 11");
        maps.brace(0, 6, code(1, 5, 1, 5, 1, 5));
        cells(0, 5, 5, 1, 1);
        cells(0, 5, 1, 5, 1);
        cells(0, 1, 0, 0, 1);
        cells(0, 4, 5, 5, 2);
    }

    private static void retraction() {
        says("Retraction: points x and y are alike if L(x, z) = L(y, z) and R(z, x) = R(z, y) for each z.");
        for (int z = 0; z < 6; z += 5) {
            maps.flip(0, 6);
            due(maps.alike(0, 5), 0);
            // One z is enough, the first or the last one, for L alone.
            maps.put(0, 5, z, z == 0 ? 1 : 0, 5);
            due(maps.alike(0, 5), 1);
            due(maps.retract(0, 1), 2);
            maps.flip(0, 6);
            // And for R alone.
            maps.put(0, z, 5, 5, z == 0 ? 1 : 0);
            due(maps.alike(0, 5), 1);
            due(maps.retract(0, 1), 2);
        }
        says("The classes of points that are alike are numbered in the order of their smallest points.");
        maps.flip(0, 5);
        for (int x = 1; x < 5; x++) {
            // The points 1 and 4 are alike, and 2 and 3.
            maps.put(0, x, 0, x == 1 || x == 4 ? 1 : 2, x);
        }
        due(maps.alike(0, 0), 0);
        due(maps.alike(0, 1), 1);
        due(maps.alike(0, 2), 2);
        due(maps.alike(0, 3), 2);
        due(maps.alike(0, 4), 1);
        says("The points of the new map are the classes");
        maps.flip(0, 5);
        maps.put(0, 4, 0, 1, 4);
        due(maps.retract(0, 0), 2);
        due(maps.whole(0, 0), 2);
        due(maps.retract(0, 0), 1);
        cellsAre(0, "00");
        due(maps.retract(0, 0), 1);
        says("L and R of two classes are the classes of L and R of their smallest points.");
        // The points 0 and 1 are alike, but what they lead to is not.
        fill(0, "00 20 21", "02 22 20", "01 01 02");
        due(maps.retract(0, 1), 2);
        cellsAre(1, "00 10", "00 01");
    }

    private static void unionAndProduct() {
        says("Union of a map with n points and one with m: the points of the first one keep their numbers, point x of the "
            + "second one becomes n + x.");
        maps.flip(0, 1);
        maps.twist(1, 5, code(1, 2, 3, 4, 0), identity(5));
        due(maps.unite(0, 1, 2), 6);
        cells(2, 1, 1, 2, 1);
        cells(2, 5, 5, 1, 5);
        due(maps.unite(1, 0, 2), 6);
        cells(2, 0, 0, 1, 0);
        cells(2, 4, 4, 0, 4);
        cells(2, 5, 5, 5, 5);
        says("Two points of the same map have L and R as in this map");
        fill(0, "11 00", "10 01");
        fill(1, "01 10", "00 11");
        due(maps.unite(0, 1, 2), 4);
        cellsAre(2, "11 00 20 30", "10 01 21 31", "02 12 23 32", "03 13 22 33");
        says("for points x and y of different maps, L(x, y) = y and R(x, y) = x.");
        maps.twist(0, 3, code(1, 2, 0), code(1, 2, 0));
        due(maps.unite(0, 0, 0), 6);
        for (int x = 0; x < 3; x++) {
            for (int y = 3; y < 6; y++) {
                cells(0, x, y, y, x);
                cells(0, y, x, x, y);
            }
        }
        says("Product of a map with n points and one with m: the pair of x of the first and y of the second one is the "
            + "point x * m + y.");
        maps.twist(0, 2, code(1, 0), identity(2));
        maps.twist(1, 3, code(1, 2, 0), identity(3));
        due(maps.pair(0, 1, 2), 6);
        for (int point = 0; point < 6; point++) {
            cells(2, 0, point, (point / 3 + 1) % 2 * 3 + (point % 3 + 1) % 3, 0);
        }
        due(maps.pair(1, 0, 2), 6);
        for (int point = 0; point < 6; point++) {
            cells(2, 5, point, (point / 2 + 1) % 3 * 2 + (point % 2 + 1) % 2, 5);
        }
        says("L and R of two pairs are formed in the components.");
        fill(0, "11 00", "10 01");
        fill(1, "01 10", "00 11");
        due(maps.pair(0, 1, 2), 4);
        // The pairs 0, 0 and 0, 1; then 0, 1 and 1, 0; then 1, 0 and 0, 1; then 1, 1 twice.
        cells(2, 0, 1, 3, 2);
        cells(2, 1, 2, 0, 0);
        cells(2, 2, 1, 3, 0);
        cells(2, 3, 3, 1, 3);
    }

    private static void inverseMirrorRenaming() {
        says("Inverse: the inverse map of r.");
        fill(0, "01 10", "11 00");
        due(maps.invert(0, 1), 2);
        cellsAre(1, "11 00", "01 10");
        maps.flip(0, 1);
        due(maps.invert(0, 1), 1);
        cellsAre(1, "00");
        says("Mirror: L(x, y) is R(y, x) of the given map, R(x, y) is L(y, x) of it.");
        fill(0, "01 10", "11 00");
        due(maps.mirror(0, 1), 2);
        cellsAre(1, "10 11", "01 00");
        says("Renaming by a permutation f: L(f(x), f(y)) is f of L(x, y) of the given map");
        maps.twist(0, 3, code(1, 2, 0), code(0, 2, 1));
        due(maps.rename(0, code(1, 2, 0), 1), 3);
        // f leads 0, 2 with the image 0, 0 to 1, 0 with the image 1, 1.
        cells(1, 1, 0, 1, 1);
        cellsAre(1, "12 22 02", "11 21 01", "10 20 00");
        says("R likewise.");
        maps.twist(0, 3, code(0, 1, 2), code(0, 2, 1));
        due(maps.rename(0, code(1, 2, 0), 1), 3);
        cellsAre(1, "02 12 22", "01 11 21", "00 10 20");
    }

    private static void braidEquation() {
        under("Properties");
        says("The braid equation holds for x, y, z if applying r to the first two of these three, then to the last two, "
            + "then to the first two gives the same three points as applying r to the last two, then to the first two, "
            + "then to the last two.");
        for (int n = 1; n <= 6; n += 5) {
            maps.flip(0, n);
            due(maps.whole(0, 2), 0);
        }
        // The first way leads x, y, z over y, y, z to y, z, z and z, z, z, the last one over x, z, z to z, z, z.
        fill(0, "00 11", "00 11");
        due(maps.whole(0, 2), 0);
        // All pairs lead to 0, 1: the first way ends in 0, 1, 1 and the last one in 0, 0, 1.
        fill(0, "01 01", "01 01");
        due(maps.whole(0, 2), 8);
        // A twist by f and g: the equation holds where f(g(y)) is g(f(y)), which y = 3 alone does.
        maps.twist(0, 4, code(1, 2, 0, 3), code(0, 2, 1, 3));
        due(maps.whole(0, 2), 48);
        due(maps.fails(0, 11), code(0, 2, 3));
        due(maps.fails(0, 12), code(1, 0, 0));
        // For six points, none of them does.
        maps.twist(0, 6, code(1, 2, 0, 4, 5, 3), code(0, 2, 1, 3, 5, 4));
        due(maps.whole(0, 2), 216);
    }

    private static void simpleProperties() {
        says("A map is a solution if it holds for all x, y, z.");
        maps.flip(0, 6);
        due(maps.whole(0, 1), 1);
        // It does not hold for 1, 1, 1 alone, then for 0, 0, 0 alone.
        fill(0, "00 10", "01 00");
        due(maps.whole(0, 2), 1);
        due(maps.whole(0, 1), 0);
        fill(0, "11 10", "01 11");
        due(maps.whole(0, 2), 1);
        due(maps.whole(0, 1), 0);
        says("bijective if r is a bijection of the pairs");
        for (int x = 0; x < 6; x += 5) {
            maps.flip(0, 6);
            due(maps.whole(0, 3), 1);
            maps.put(0, x, x, 5 - x, 5 - x);
            due(maps.whole(0, 3), 0);
        }
        maps.flip(0, 1);
        due(maps.whole(0, 3), 1);
        says("involutive if applying r twice to any pair gives this pair");
        fillCycles(0, 6, 1);
        due(maps.whole(0, 4), 1);
        fillCycles(0, 6, 2, 2, 2, 2, 2, 2, 2, 2, 2, 2, 2, 2, 2, 2, 2, 2, 2, 2);
        due(maps.whole(0, 4), 1);
        fillCycles(0, 6, 3);
        due(maps.whole(0, 4), 0);
        fillCycles(0, 6, 33, 3);
        due(maps.whole(0, 4), 0);
        fillCycles(0, 2, 1, 3);
        due(maps.whole(0, 4), 0);
        fillCycles(0, 2, 2, 2);
        maps.put(0, 1, 1, 1, 1);
        due(maps.whole(0, 4), 0);
        says("left nondegenerate if for each x the points L(x, y) for all y are different");
        for (int x = 0; x < 6; x += 5) {
            maps.flip(0, 6);
            due(maps.whole(0, 5), 1);
            maps.put(0, x, 5, 0, x);
            due(maps.whole(0, 5), 0);
            due(maps.whole(0, 6), 1);
        }
        says("right nondegenerate if for each y the points R(x, y) for all x are different");
        for (int y = 0; y < 6; y += 5) {
            maps.flip(0, 6);
            due(maps.whole(0, 6), 1);
            maps.put(0, 5, y, y, 0);
            due(maps.whole(0, 6), 0);
            due(maps.whole(0, 5), 1);
        }
        says("square-free if r(x, x) = (x, x) for each x.");
        for (int x = 0; x < 6; x += 5) {
            maps.flip(0, 6);
            due(maps.whole(0, 7), 1);
            maps.put(0, x, x, 3, x);
            due(maps.whole(0, 7), 0);
            maps.put(0, x, x, x, 3);
            due(maps.whole(0, 7), 0);
        }
        says("A map is");
        maps.flip(0, 1);
        for (int what = 3; what <= 7; what++) {
            due(maps.whole(0, what), 1);
        }
    }

    private static void orbits() {
        says("The orbits are the classes of the finest equivalence relation by which each point y is equivalent to L(x, y) "
            + "and to R(y, x), for all x.");
        maps.flip(0, 6);
        due(maps.whole(0, 8), 6);
        for (int x = 0; x < 6; x += 5) {
            maps.flip(0, 6);
            // L alone joins 4 and 2, for one x; then R alone joins 2 and 0.
            maps.put(0, x, 4, 2, x);
            due(maps.orbit(0, 2), 1 << 4 | 1 << 2);
            due(maps.orbit(0, 4), 1 << 4 | 1 << 2);
            maps.put(0, 2, x, x, 0);
            due(maps.orbit(0, 0), 1 << 4 | 1 << 2 | 1);
            due(maps.orbit(0, 4), 1 << 4 | 1 << 2 | 1);
            due(maps.whole(0, 8), 4);
        }
        // A chain from 5 to 0 that starts at its far end.
        maps.flip(0, 6);
        for (int x = 1; x < 6; x++) {
            maps.put(0, 0, x, x - 1, 0);
        }
        due(maps.orbit(0, 0), 63);
        due(maps.orbit(0, 5), 63);
        due(maps.whole(0, 8), 1);
        says("The orbits are the classes of the finest equivalence relation");
        // The points 1 and 3 are joined by one link, 2 and 4 by the other, and the rest stays alone.
        maps.flip(0, 5);
        maps.put(0, 3, 3, 1, 3);
        maps.put(0, 4, 0, 0, 2);
        due(maps.orbit(0, 0), 1);
        due(maps.orbit(0, 3), 1 << 1 | 1 << 3);
        due(maps.orbit(0, 2), 1 << 2 | 1 << 4);
        due(maps.whole(0, 8), 3);
    }

    private static void closedSets() {
        says("A set of points is closed if L and R of any two of its points (also of one and the same) are in it");
        maps.flip(0, 6);
        maps.put(0, 5, 5, 4, 5);
        maps.put(0, 4, 4, 4, 3);
        due(maps.shut(0, 1 << 5), 1 << 5 | 1 << 4 | 1 << 3);
        due(maps.shut(0, 1 << 4), 1 << 4 | 1 << 3);
        maps.flip(0, 6);
        maps.put(0, 0, 5, 5, 1);
        maps.put(0, 5, 1, 2, 5);
        due(maps.shut(0, 1 << 5), 1 << 5);
        due(maps.shut(0, 1 << 5 | 1), 1 << 5 | 7);
        says("the empty set is closed, too.");
        maps.twist(0, 6, code(1, 2, 3, 4, 5, 0), identity(6));
        due(maps.shut(0, 0), 0);
        due(maps.whole(0, 13), 2);
        maps.flip(0, 1);
        due(maps.shut(0, 0), 0);
        due(maps.whole(0, 13), 2);
    }

    private static void levels() {
        says("The level of a map is the number of retractions, one after the other, each of which makes the number of "
            + "points smaller, until there is one point");
        // There is one point already: no retraction is needed.
        maps.flip(0, 1);
        due(maps.whole(0, 9), 0);
        maps.take(1, 0, 0);
        due(maps.whole(0, 9), 0);
        maps.flip(0, 6);
        maps.retract(0, 0);
        due(maps.whole(0, 9), 0);
        for (int n = 2; n <= 6; n++) {
            maps.flip(0, n);
            due(maps.whole(0, 9), 1);
        }
        // Each retraction makes two points one: 0 and 1, then the point that moved only these apart, and so on.
        for (int n = 3; n <= 6; n++) {
            maps.flip(0, n);
            for (int x = 2; x < n; x++) {
                maps.put(0, x, x - 1, x - 2, x);
            }
            due(maps.whole(0, 9), n - 1);
            due(maps.retract(0, 1), n - 1);
            due(maps.whole(1, 9), n - 2);
        }
        says("it has no level if the number of points stays the same before.");
        // At once.
        maps.group(0, 2, 6);
        due(maps.whole(0, 9), NONE);
        fill(0, "00 01", "10 11");
        due(maps.retract(0, 1), 2);
        due(maps.whole(0, 9), NONE);
        // After a first retraction from four points to two.
        maps.flip(1, 2);
        maps.pair(0, 1, 2);
        due(maps.retract(2, 3), 2);
        due(maps.whole(2, 9), NONE);
        due(maps.whole(3, 9), NONE);
    }

    private static void isomorphisms() {
        says("An isomorphism of a map to another one is a permutation f so that the first map, renamed by f, is the other "
            + "one (which has the same number of points).");
        maps.twist(0, 3, code(1, 2, 0), code(0, 2, 1));
        int f = code(1, 2, 0);
        maps.rename(0, f, 1);
        due(maps.like(0, 1, -1), 1);
        due(maps.like(0, 1, 0), f);
        due(maps.like(1, 0, 0), code(2, 0, 1));
        // L and R must both agree, in the last pair, too.
        due(maps.put(1, 2, 2, 1, 0), code(0, 0));
        due(maps.like(0, 1, -1), 0);
        maps.put(1, 2, 2, 0, 1);
        due(maps.like(0, 1, -1), 0);
        maps.put(1, 2, 2, 0, 0);
        due(maps.like(0, 1, -1), 1);
        maps.flip(0, 6);
        maps.flip(1, 6);
        maps.put(1, 5, 5, 5, 0);
        due(maps.like(0, 1, -1), 0);
        maps.flip(1, 5);
        due(maps.like(0, 1, -1), 0);
        due(maps.like(1, 0, -1), 0);
        due(maps.like(0, 1, 0), NONE);
    }

    private static void equivalentWords() {
        says("Two words of k points are equivalent if one comes from the other by steps in each of which r, or r backwards "
            + "(from r(x, y) to x, y), is applied to two adjacent letters.");
        // r leads 0, 1 and 1, 0 to 1, 1 and leaves the other pairs: 0, 1 and 1, 0 are joined backwards.
        fill(0, "00 11", "11 11");
        due(maps.words(0, 1), 2);
        due(maps.words(0, 2), 2);
        due(maps.least(0, 2, code(1, 0)), code(0, 1));
        due(maps.least(0, 2, code(1, 1)), code(0, 1));
        due(maps.least(0, 4, code(1, 1, 1, 1)), code(0, 0, 0, 1));
        due(maps.least(0, 4, 0), 0);
        says("is applied to two adjacent letters");
        // Only 1, 2 and 2, 1 are joined: a letter 0 between them keeps them apart.
        fillCycles(0, 3, 1);
        maps.put(0, 1, 2, 2, 1);
        due(maps.least(0, 2, code(2, 1)), code(1, 2));
        due(maps.least(0, 3, code(2, 0, 1)), code(2, 0, 1));
        due(maps.least(0, 3, code(2, 1, 0)), code(1, 2, 0));
        due(maps.least(0, 4, code(0, 0, 2, 1)), code(0, 0, 1, 2));
        due(maps.least(0, 4, code(0, 2, 1, 0)), code(0, 1, 2, 0));
        due(maps.words(0, 1), 3);
        due(maps.words(0, 2), 8);
    }

    private static void braids() {
        under("Braids");
        says("There are two braids, 0 and 1: sequences of at most 24 letters a, b, c, A, B, C, empty at first.");
        for (int braid = 0; braid < 2; braid++) {
            due(maps.erase(braid), 0);
            for (int i = 1; i <= 24; i++) {
                due(maps.write(braid, "abcABC".charAt(i % 6)), i);
            }
            due(maps.write(braid, 'a'), FULL);
            due(maps.erase(braid), 24);
        }
        due(maps.write(-1, 'a'), UNKNOWN);
        due(maps.write(2, 'a'), UNKNOWN);
        says("A braid acts on a tuple of s points, s from 2 to 4, at positions 0 to s - 1, letter by letter: a applies r to "
            + "the points at the positions 0 and 1, b at 1 and 2, c at 2 and 3");
        maps.twist(0, 6, code(1, 2, 3, 4, 5, 0), code(2, 3, 4, 5, 0, 1));
        letters(0, "a");
        due(maps.through(0, 0, 2, code(0, 3)), code(4, 2));
        due(maps.through(0, 0, 4, code(0, 3, 0, 3)), code(4, 2, 0, 3));
        letters(0, "b");
        due(maps.through(0, 0, 3, code(0, 3, 0)), code(0, 1, 5));
        due(maps.through(0, 0, 4, code(0, 3, 0, 3)), code(0, 1, 5, 3));
        letters(0, "c");
        due(maps.through(0, 0, 4, code(0, 3, 0, 3)), code(0, 3, 4, 2));
        // The first letter acts first.
        letters(0, "abc");
        due(maps.through(0, 0, 4, code(0, 1, 2, 3)), code(2, 3, 4, 0));
        due(maps.through(0, 0, 1, 0), OUTSIDE);
        due(maps.through(0, 0, 5, 0), OUTSIDE);
        says("A, B, C apply the inverse of r there.");
        maps.twist(0, 6, code(1, 2, 3, 4, 5, 0), code(2, 3, 4, 5, 0, 1));
        letters(0, "A");
        due(maps.through(0, 0, 2, code(4, 2)), code(0, 3));
        letters(0, "B");
        due(maps.through(0, 0, 4, code(0, 1, 5, 3)), code(0, 3, 0, 3));
        letters(0, "C");
        due(maps.through(0, 0, 4, code(0, 3, 4, 2)), code(0, 3, 0, 3));
        letters(0, "CBA");
        due(maps.through(0, 0, 4, code(2, 3, 4, 0)), code(0, 1, 2, 3));
        says("A braid fits a map and s if s is large enough for all of its letters, and the map is bijective if the braid "
            + "has a capital letter.");
        maps.flip(0, 2);
        maps.flip(1, 2);
        maps.put(1, 1, 1, 0, 0);
        String all = "abcABC";
        for (int i = 0; i < 6; i++) {
            letters(0, all.substring(i, i + 1));
            letters(1, i < 3 ? "aaaaaaaaaaaaaaaaaaaaaaa" : "AAAAAAAAAAAAAAAAAAAAAAA");
            due(maps.write(1, all.charAt(i)), 24);
            for (int braid = 0; braid < 2; braid++) {
                for (int s = 2; s <= 4; s++) {
                    boolean isLarge = s >= i % 3 + 2;
                    due(maps.through(0, braid, s, 0), isLarge ? 0 : NOT);
                    due(maps.through(1, braid, s, 0), isLarge && i < 3 ? 0 : NOT);
                }
            }
        }
        letters(0, "");
        for (int s = 2; s <= 4; s++) {
            due(maps.through(1, 0, s, code(1, 1)), code(1, 1));
        }
    }

    private static void lists() {
        under("List");
        says("The list for n points, n from 1 to 4, has one map of each isomorphism class of involutive left nondegenerate "
            + "solutions: the one whose sequence L(0, 0), L(0, 1), ..., L(1, 0), ..., L(n - 1, n - 1) is smallest.");
        for (int n = 1; n <= 4; n++) {
            due(maps.listed(n), SIZES[n - 1]);
            // No row of different points has a smaller sequence than those of the flip.
            due(maps.take(n, 0, 0), n);
            maps.flip(1, n);
            due(maps.like(0, 1, 0), identity(n));
        }
        due(maps.listed(0), OUTSIDE);
        due(maps.listed(5), OUTSIDE);
        maps.take(3, 1, 0);
        cellsAre(0, "00 10 21", "01 11 20", "12 02 22");
        for (int n = 1; n <= 4; n++) {
            for (int i = 0; i < SIZES[n - 1]; i++) {
                isOneOfItsClass(n, i);
            }
        }
        says("The maps of the list are ordered by these sequences.");
        for (int n = 1; n <= 4; n++) {
            long before = -1;
            for (int i = 0; i < SIZES[n - 1]; i++) {
                maps = new ThreeStrandMaps();
                due(maps.take(n, i, 0), n);
                due(sequence(0, n) > before ? 1 : 0, 1);
                before = sequence(0, n);
            }
        }
    }

    private static void isOneOfItsClass(int n, int i) {
        maps = new ThreeStrandMaps();
        maps.take(n, i, 0);
        for (int what : new int[] {1, 4, 5}) {
            due(maps.whole(0, what), 1);
        }
        for (int other = 0; other < i; other++) {
            maps.take(n, other, 1);
            due(maps.like(0, 1, -1), 0);
        }
        maps = new ThreeStrandMaps();
        maps.take(n, i, 0);
        long smallest = sequence(0, n);
        maps.flip(2, n);
        int permutations = maps.like(2, 2, -1);
        for (int f = 0; f < permutations; f++) {
            due(maps.rename(0, maps.like(2, 2, f), 1), n);
            due(sequence(1, n) >= smallest ? 1 : 0, 1);
            due(maps.whole(1, 14), i);
        }
    }

    /** The sequence of all L of a map with up to four points, as a number. */
    private static long sequence(int map, int n) {
        long sequence = 0;
        for (int pair = 0; pair < n * n; pair++) {
            sequence = 4 * sequence + maps.cell(map, pair / n, pair % n, 0);
        }
        return sequence;
    }
}
