/** The sentences of the promises 31 to 33: the list and the counts. SolutionListTest has every map of the list. */
final class ListBoundaries extends Sentences {
    /** How many maps the lists for 1 to 4 points have. */
    private static final int[] SIZES = {1, 2, 5, 23};

    private ListBoundaries() {
    }

    static void check() {
        listed();
        take();
        count();
    }

    private static void listed() {
        under("Promise 31: listed");
        says("Returns the number of maps in the list for n points.");
        due(maps.listed(3), 5);
        says("n: the number of points, 1 to 4");
        due(maps.listed(1), 1);
        due(maps.listed(4), 23);
        says("Returns the number of maps");
        for (int n = 1; n <= 4; n++) {
            due(maps.listed(n), SIZES[n - 1]);
            due(maps.take(n, maps.listed(n) - 1, 0), n);
            due(maps.take(n, maps.listed(n), 0), NONE);
        }
        says("OUTSIDE if n is out of range.");
        for (int n : new int[] {0, 5, 6, -1, LOW, HIGH}) {
            due(maps.listed(n), OUTSIDE);
        }
    }

    private static void take() {
        under("Promise 32: take");
        says("Makes a map of the list.");
        due(maps.take(2, 0, 0), 2);
        cellsAre(0, "00 10", "01 11");
        due(maps.take(2, 1, 0), 2);
        cellsAre(0, "11 01", "10 00");
        says("n: the number of points, 1 to 4");
        due(maps.take(1, 0, 0), 1);
        cellsAre(0, "00");
        due(maps.take(4, 0, 0), 4);
        cellsAre(0, "00 10 20 30", "01 11 21 31", "02 12 22 32", "03 13 23 33");
        says("i: the index of the map in the list, 0 or greater");
        for (int n = 1; n <= 4; n++) {
            for (int i = 0; i < SIZES[n - 1]; i++) {
                due(maps.take(n, i, 0), n);
                due(maps.whole(0, 14), i);
            }
        }
        // The rows of the last one are 1 2 0 each, and it leads x, y to y + 1, x - 1.
        maps.take(3, 4, 0);
        cellsAre(0, "12 22 02", "10 20 00", "11 21 01");
        says("to: the place of the new map, 0 to 3");
        due(maps.take(2, 0, 0), 2);
        due(maps.take(3, 0, 3), 3);
        due(maps.count(0), 2);
        due(maps.whole(0, 0), 2);
        due(maps.whole(3, 0), 3);
        says("Returns n");
        for (int n = 1; n <= 4; n++) {
            due(maps.take(n, 0, n - 1), n);
            due(maps.whole(n - 1, 0), n);
        }
        says("NONE if the list has not so many maps (nothing changes then)");
        maps.flip(0, 6);
        for (int n = 1; n <= 4; n++) {
            for (int i : new int[] {SIZES[n - 1], SIZES[n - 1] + 1, 31, HIGH}) {
                due(maps.take(n, i, 0), NONE);
                due(maps.take(n, i, 1), NONE);
            }
        }
        due(maps.whole(0, 0), 6);
        cells(0, 5, 4, 4, 5);
        due(maps.count(0), 1);
        says("UNKNOWN if there is no such place");
        for (int place : NOT_OF_FOUR) {
            due(maps.take(1, 0, place), UNKNOWN);
            due(maps.take(1, 1, place), UNKNOWN);
            due(maps.take(4, 23, place), UNKNOWN);
            due(maps.take(5, 0, place), UNKNOWN);
            due(maps.take(1, -1, place), UNKNOWN);
        }
        due(maps.count(0), 0);
        says("OUTSIDE if n is out of range, or i is negative.");
        maps.flip(0, 6);
        for (int n : new int[] {0, 5, 6, -1, LOW, HIGH}) {
            due(maps.take(n, 0, 0), OUTSIDE);
            due(maps.take(n, HIGH, 0), OUTSIDE);
            due(maps.take(n, -1, 0), OUTSIDE);
        }
        for (int n = 1; n <= 4; n++) {
            due(maps.take(n, -1, 0), OUTSIDE);
            due(maps.take(n, LOW, 0), OUTSIDE);
        }
        due(maps.whole(0, 0), 6);
    }

    private static void count() {
        under("Promise 33: count");
        says("Returns a count.");
        maps.flip(2, 4);
        letters(0, "abc");
        letters(1, "AB");
        int[] counts = {1, 4, 3, 2};
        for (int what = 0; what < 4; what++) {
            due(maps.count(what), counts[what]);
        }
        says("what: 0: maps");
        due(maps.count(0), 0);
        for (int place = 0; place < 4; place++) {
            maps.flip(place, 6);
            due(maps.count(0), place + 1);
            // A map that replaces another one.
            maps.flip(place, 6);
            due(maps.count(0), place + 1);
        }
        for (int place = 0; place < 4; place++) {
            maps.drop(place);
            due(maps.count(0), 3 - place);
        }
        says("1: points of all maps together");
        due(maps.count(1), 0);
        for (int place = 0; place < 4; place++) {
            maps.flip(place, 6);
            due(maps.count(1), 6 * (place + 1));
        }
        maps.flip(3, 1);
        due(maps.count(1), 19);
        maps.retract(0, 0);
        due(maps.count(1), 14);
        maps.drop(1);
        due(maps.count(1), 8);
        says("2: letters of braid 0");
        due(maps.count(2), 0);
        maps.write(1, 'a');
        due(maps.count(2), 0);
        letters(0, "abcABCabcABCabcABCabcABC");
        due(maps.count(2), 24);
        maps.write(0, 'a');
        due(maps.count(2), 24);
        says("3: letters of braid 1");
        due(maps.count(3), 0);
        maps.write(0, 'a');
        due(maps.count(3), 0);
        letters(1, "abcABCabcABCabcABCabcABC");
        due(maps.count(3), 24);
        maps.erase(1);
        due(maps.count(3), 0);
        says("Returns the count");
        for (int what = 0; what < 4; what++) {
            due(maps.count(what), 0);
        }
        says("OUTSIDE if what is out of range.");
        for (int what : new int[] {-1, 4, LOW, HIGH}) {
            due(maps.count(what), OUTSIDE);
        }
    }
}
