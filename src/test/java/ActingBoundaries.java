/** The sentences of the promises 23 to 30: words and braids. */
final class ActingBoundaries extends Sentences {
    private ActingBoundaries() {
    }

    static void check() {
        words();
        least();
        write();
        erase();
        through();
        stays();
        rounds();
        part();
    }

    private static void words() {
        under("Promise 23: words");
        says("Returns the number of equivalence classes of words.");
        maps.flip(0, 3);
        int[] ofThree = {3, 6, 10, 15};
        for (int k = 1; k <= 4; k++) {
            due(maps.words(0, k), ofThree[k - 1]);
        }
        says("map: the place of the map");
        maps.flip(0, 2);
        maps.flip(3, 3);
        due(maps.words(0, 2), 3);
        due(maps.words(3, 2), 6);
        says("k: the number of letters, 1 to 4");
        maps.flip(0, 6);
        due(maps.words(0, 1), 6);
        due(maps.words(0, 2), 21);
        due(maps.words(0, 3), 56);
        due(maps.words(0, 4), 126);
        says("Returns the number of classes");
        // No two words are equivalent.
        fillCycles(0, 6, 1);
        due(maps.words(0, 1), 6);
        due(maps.words(0, 4), 1296);
        // All words of two letters or more are.
        fill(0, "00 00", "00 00");
        due(maps.words(0, 1), 2);
        due(maps.words(0, 2), 1);
        due(maps.words(0, 4), 1);
        maps.flip(0, 1);
        for (int k = 1; k <= 4; k++) {
            due(maps.words(0, k), 1);
        }
        says("UNKNOWN if there is no such map");
        for (int k = 0; k <= 5; k++) {
            due(maps.words(0, k), UNKNOWN);
            for (int place : NOT_OF_FOUR) {
                due(maps.words(place, k), UNKNOWN);
            }
        }
        says("OUTSIDE if k is out of range.");
        maps.flip(0, 2);
        for (int k : new int[] {0, 5, -1, LOW, HIGH}) {
            due(maps.words(0, k), OUTSIDE);
        }
    }

    private static void least() {
        under("Promise 24: least");
        says("Returns the lexicographically smallest word that is equivalent to a word.");
        maps.flip(0, 6);
        due(maps.least(0, 4, code(5, 3, 0, 3)), code(0, 3, 3, 5));
        // Of the code 8 * 1 and the code 1 the first one is the smaller word.
        due(maps.least(0, 2, code(1, 0)), code(0, 1));
        says("map: the place of the map");
        maps.flip(0, 2);
        fillCycles(3, 2, 1);
        due(maps.least(0, 2, code(1, 0)), code(0, 1));
        due(maps.least(3, 2, code(1, 0)), code(1, 0));
        says("k: the number of letters, 1 to 4");
        maps.flip(0, 6);
        for (int x = 0; x < 6; x++) {
            due(maps.least(0, 1, x), x);
        }
        due(maps.least(0, 3, code(5, 4, 0)), code(0, 4, 5));
        due(maps.least(0, 4, code(5, 4, 3, 2)), code(2, 3, 4, 5));
        says("word: the code of the k letters of the word");
        maps.flip(0, 6);
        due(maps.least(0, 4, 0), 0);
        due(maps.least(0, 4, code(5, 5, 5, 5)), code(5, 5, 5, 5));
        due(maps.least(0, 2, code(5, 5)), code(5, 5));
        says("Returns the code of the smallest word");
        // r leads 0, 1 to 1, 1, and 1, 1 to 1, 0: the smallest word is found backwards alone.
        fill(0, "00 11", "10 10");
        due(maps.least(0, 2, code(1, 0)), code(0, 1));
        due(maps.least(0, 2, code(1, 1)), code(0, 1));
        due(maps.least(0, 2, code(0, 1)), code(0, 1));
        due(maps.least(0, 2, code(0, 0)), code(0, 0));
        fill(0, "00 00", "00 00");
        due(maps.least(0, 1, 1), 1);
        due(maps.least(0, 4, code(1, 1, 1, 1)), 0);
        says("UNKNOWN if there is no such map");
        due(maps.least(0, 1, 0), UNKNOWN);
        due(maps.least(0, 5, 0), UNKNOWN);
        due(maps.least(0, 1, -1), UNKNOWN);
        for (int place : NOT_OF_FOUR) {
            due(maps.least(place, 1, 0), UNKNOWN);
            due(maps.least(place, 0, -1), UNKNOWN);
        }
        says("OUTSIDE if k is out of range, or word is not the code of k points of the map.");
        maps.flip(0, 3);
        for (int k : new int[] {0, 5, -1, LOW, HIGH}) {
            due(maps.least(0, k, 0), OUTSIDE);
        }
        for (int k = 1; k <= 4; k++) {
            int good = code(2, 2, 2, 2) & (1 << 3 * k) - 1;
            due(maps.least(0, k, good), good);
            for (int bad : new int[] {good + 1, good + (1 << 3 * (k - 1)), good | 1 << 3 * k, -1, LOW | good, HIGH}) {
                due(maps.least(0, k, bad), OUTSIDE);
            }
        }
    }

    private static void write() {
        under("Promise 25: write");
        says("Appends a letter to a braid.");
        maps.twist(0, 6, code(1, 2, 3, 4, 5, 0), code(2, 3, 4, 5, 0, 1));
        maps.write(0, 'a');
        due(maps.through(0, 0, 3, code(0, 1, 2)), code(2, 2, 2));
        maps.write(0, 'b');
        due(maps.through(0, 0, 3, code(0, 1, 2)), code(2, 3, 4));
        says("braid: the braid, 0 or 1");
        due(maps.write(0, 'a'), 1);
        due(maps.write(1, 'b'), 1);
        due(maps.write(1, 'b'), 2);
        due(maps.count(2), 1);
        due(maps.count(3), 2);
        says("letter: the ASCII code of a, b, c, A, B or C");
        int[] letters = {97, 98, 99, 65, 66, 67};
        for (int i = 0; i < 6; i++) {
            due(maps.write(0, letters[i]), i + 1);
        }
        says("Returns the number of letters");
        for (int i = 1; i <= 24; i++) {
            due(maps.write(1, 'c'), i);
        }
        maps.erase(1);
        due(maps.write(1, 'c'), 1);
        says("UNKNOWN if there is no such braid");
        for (int braid : new int[] {-1, 2, LOW, HIGH}) {
            due(maps.write(braid, 'a'), UNKNOWN);
            due(maps.write(braid, 'd'), UNKNOWN);
        }
        letters(0, "aaaaaaaaaaaaaaaaaaaaaaaa");
        due(maps.write(2, 'a'), UNKNOWN);
        due(maps.write(-1, 'd'), UNKNOWN);
        says("OUTSIDE if letter is none of these");
        maps.write(0, 'a');
        // Beside the letters, and the letters with other bits.
        for (int bad : new int[] {'a' - 1, 'c' + 1, 'A' - 1, 'C' + 1, 0, 1, 2, -1, 'a' + 128, 'A' | 256, 'b' | 65536, 'a' | LOW,
                LOW, HIGH}) {
            due(maps.write(0, bad), OUTSIDE);
        }
        due(maps.count(2), 1);
        says("FULL if the braid has 24 letters.");
        for (int braid = 0; braid < 2; braid++) {
            letters(braid, "abcABCabcABCabcABCabcAB");
            due(maps.write(braid, 'd'), OUTSIDE);
            due(maps.write(braid, 'C'), 24);
            for (int letter : "abcABC".toCharArray()) {
                due(maps.write(braid, letter), FULL);
            }
            due(maps.write(braid, 'd'), OUTSIDE);
            due(maps.count(2 + braid), 24);
        }
    }

    private static void erase() {
        under("Promise 26: erase");
        says("Makes a braid empty.");
        letters(0, "abc");
        letters(1, "AB");
        maps.erase(0);
        due(maps.count(2), 0);
        due(maps.count(3), 2);
        maps.flip(0, 2);
        // A braid with a c or a capital letter would not fit.
        maps.put(0, 0, 0, 1, 1);
        due(maps.through(0, 0, 2, code(1, 0)), code(1, 0));
        maps.write(0, 'a');
        due(maps.through(0, 0, 2, code(1, 0)), code(0, 1));
        says("braid: the braid, 0 or 1");
        letters(0, "abc");
        letters(1, "AB");
        due(maps.erase(1), 2);
        due(maps.count(2), 3);
        due(maps.count(3), 0);
        says("Returns the number of letters that it had");
        due(maps.erase(0), 0);
        for (int i = 1; i <= 24; i++) {
            letters(0, "abcABCabcABCabcABCabcABC".substring(0, i));
            if (i == 24) {
                due(maps.write(0, 'a'), FULL);
            }
            due(maps.erase(0), i);
        }
        due(maps.erase(0), 0);
        due(maps.write(0, 'a'), 1);
        says("UNKNOWN if there is no such braid.");
        letters(0, "a");
        letters(1, "b");
        for (int braid : new int[] {-1, 2, LOW, HIGH}) {
            due(maps.erase(braid), UNKNOWN);
        }
        due(maps.count(2), 1);
        due(maps.count(3), 1);
    }

    private static void through() {
        under("Promise 27: through");
        says("Lets a braid act on a tuple.");
        maps.twist(0, 6, code(1, 2, 3, 4, 5, 0), code(2, 3, 4, 5, 0, 1));
        letters(0, "abc");
        due(maps.through(0, 0, 4, code(0, 1, 2, 3)), code(2, 3, 4, 0));
        letters(0, "cba");
        due(maps.through(0, 0, 4, code(0, 1, 2, 3)), code(0, 2, 3, 4));
        says("map: the place of the map");
        maps.flip(0, 2);
        fillCycles(3, 2, 1);
        letters(0, "a");
        due(maps.through(0, 0, 2, code(0, 1)), code(1, 0));
        due(maps.through(3, 0, 2, code(0, 1)), code(0, 1));
        says("braid: the braid, 0 or 1");
        maps.flip(0, 3);
        letters(0, "a");
        letters(1, "b");
        due(maps.through(0, 0, 3, code(0, 1, 2)), code(1, 0, 2));
        due(maps.through(0, 1, 3, code(0, 1, 2)), code(0, 2, 1));
        says("s: the number of points of the tuple, 2 to 4");
        maps.flip(0, 6);
        letters(0, "a");
        due(maps.through(0, 0, 2, code(4, 5)), code(5, 4));
        due(maps.through(0, 0, 3, code(4, 5, 3)), code(5, 4, 3));
        due(maps.through(0, 0, 4, code(4, 5, 3, 2)), code(5, 4, 3, 2));
        says("tuple: the code of the s points");
        maps.flip(0, 6);
        letters(0, "a");
        due(maps.through(0, 0, 2, 0), 0);
        due(maps.through(0, 0, 4, code(5, 5, 5, 5)), code(5, 5, 5, 5));
        says("Returns the code of the resulting tuple");
        maps.flip(0, 6);
        for (int s = 2; s <= 4; s++) {
            int tuple = code(5, 4, 3, 2) & (1 << 3 * s) - 1;
            due(maps.through(0, 1, s, tuple), tuple);
        }
        letters(1, "abcaba");
        due(maps.through(0, 1, 4, code(5, 4, 3, 2)), code(2, 3, 4, 5));
        letters(1, "abacbacabcabAbcaBcabcaCa");
        due(maps.count(3), 24);
        due(maps.through(0, 1, 4, code(5, 5, 5, 5)), code(5, 5, 5, 5));
        says("UNKNOWN if there is no such map or braid");
        maps.flip(0, 2);
        maps.write(0, 'c');
        for (int s : new int[] {1, 2, 4, 5}) {
            due(maps.through(1, 0, s, 0), UNKNOWN);
            for (int place : NOT_OF_FOUR) {
                due(maps.through(place, 0, s, 0), UNKNOWN);
            }
            for (int braid : new int[] {-1, 2, LOW, HIGH}) {
                due(maps.through(0, braid, s, 0), UNKNOWN);
                due(maps.through(0, braid, s, -1), UNKNOWN);
            }
        }
        says("OUTSIDE if s is out of range, or tuple is not the code of s points of the map");
        maps.flip(0, 3);
        letters(1, "c");
        for (int s : new int[] {0, 1, 5, -1, LOW, HIGH}) {
            due(maps.through(0, 0, s, 0), OUTSIDE);
            due(maps.through(0, 1, s, 0), OUTSIDE);
        }
        for (int s = 2; s <= 4; s++) {
            int good = code(2, 2, 2, 2) & (1 << 3 * s) - 1;
            due(maps.through(0, 0, s, good), good);
            for (int bad : new int[] {good + 1, good + (1 << 3 * (s - 1)), good | 1 << 3 * s, -1, LOW | good, HIGH}) {
                due(maps.through(0, 0, s, bad), OUTSIDE);
                due(maps.through(0, 1, s, bad), OUTSIDE);
            }
        }
        says("NOT if the braid does not fit the map and s.");
        maps.flip(0, 2);
        maps.flip(1, 2);
        maps.put(1, 1, 1, 0, 0);
        letters(0, "ab");
        letters(1, "A");
        due(maps.through(0, 0, 2, 0), NOT);
        due(maps.through(0, 0, 3, 0), 0);
        due(maps.through(0, 1, 2, 0), 0);
        due(maps.through(1, 1, 2, 0), NOT);
        due(maps.through(1, 1, 4, 0), NOT);
        due(maps.through(1, 0, 3, 0), 0);
        maps.write(0, 'c');
        due(maps.through(0, 0, 3, 0), NOT);
        due(maps.through(0, 0, 4, 0), 0);
    }

    private static void stays() {
        under("Promise 28: stays");
        says("Returns the number of tuples that a braid leaves as they are.");
        maps.flip(0, 3);
        letters(0, "a");
        due(maps.stays(0, 0, 2), 3);
        due(maps.stays(0, 0, 3), 9);
        due(maps.stays(0, 0, 4), 27);
        says("map: the place of the map");
        maps.flip(0, 2);
        maps.flip(3, 3);
        letters(0, "a");
        due(maps.stays(0, 0, 2), 2);
        due(maps.stays(3, 0, 2), 3);
        says("braid: the braid, 0 or 1");
        maps.flip(0, 3);
        letters(0, "a");
        due(maps.stays(0, 0, 3), 9);
        due(maps.stays(0, 1, 3), 27);
        says("s: the number of points of the tuples, 2 to 4");
        maps.flip(0, 6);
        due(maps.stays(0, 0, 2), 36);
        due(maps.stays(0, 0, 3), 216);
        due(maps.stays(0, 0, 4), 1296);
        says("Returns the number of tuples");
        for (int n = 1; n <= 6; n++) {
            maps.flip(0, n);
            letters(0, "abc");
            due(maps.stays(0, 0, 4), n);
        }
        // No tuple stays, or the one with 0 alone.
        fillCycles(0, 6, 36);
        letters(0, "a");
        due(maps.stays(0, 0, 2), 0);
        due(maps.stays(0, 0, 4), 0);
        fill(0, "00 00", "00 00");
        due(maps.stays(0, 0, 2), 1);
        says("UNKNOWN if there is no such map or braid");
        maps.flip(0, 2);
        maps.write(0, 'c');
        for (int s : new int[] {1, 2, 4, 5}) {
            due(maps.stays(1, 0, s), UNKNOWN);
            for (int place : NOT_OF_FOUR) {
                due(maps.stays(place, 0, s), UNKNOWN);
            }
            for (int braid : new int[] {-1, 2, LOW, HIGH}) {
                due(maps.stays(0, braid, s), UNKNOWN);
            }
        }
        says("OUTSIDE if s is out of range");
        maps.flip(0, 2);
        letters(1, "c");
        for (int s : new int[] {0, 1, 5, -1, LOW, HIGH}) {
            due(maps.stays(0, 0, s), OUTSIDE);
            due(maps.stays(0, 1, s), OUTSIDE);
        }
        says("NOT if the braid does not fit the map and s.");
        maps.flip(0, 2);
        maps.flip(1, 2);
        maps.put(1, 1, 1, 0, 0);
        letters(0, "ab");
        letters(1, "A");
        due(maps.stays(0, 0, 2), NOT);
        due(maps.stays(0, 0, 3), 2);
        due(maps.stays(0, 1, 2), 2);
        due(maps.stays(1, 1, 2), NOT);
        due(maps.stays(1, 1, 4), NOT);
        due(maps.stays(1, 0, 3), 1);
        maps.write(0, 'c');
        due(maps.stays(0, 0, 3), NOT);
        due(maps.stays(0, 0, 4), 2);
    }

    private static void rounds() {
        under("Promise 29: rounds");
        says("Returns the smallest number of times, from 1 to 60, that a braid must act so that all tuples are as they were "
            + "at the beginning.");
        maps.flip(0, 2);
        due(maps.rounds(0, 0, 2), 1);
        letters(0, "a");
        due(maps.rounds(0, 0, 2), 2);
        fillCycles(0, 4, 3, 4, 5);
        due(maps.rounds(0, 0, 2), 60);
        says("from 1 to 60");
        // One cycle with 59 tuples, then cycles that need 60 together, then one with 61; the others are shorter.
        fill(0, "32 12 20 13", "31 22 11 00", "23 03 10 21", "01 30 02 33");
        letters(0, "abb");
        due(maps.rounds(0, 0, 3), 59);
        fill(0, "03 23 01 21", "31 30 33 32", "12 00 10 20", "11 02 13 22");
        letters(0, "abbb");
        due(maps.rounds(0, 0, 3), 60);
        fill(0, "32 01 30 12", "02 00 10 03", "21 33 22 23", "20 13 31 11");
        letters(0, "bab");
        due(maps.rounds(0, 0, 3), NONE);
        allTuples();
        says("map: the place of the map");
        maps.flip(0, 2);
        fillCycles(3, 2, 3);
        letters(0, "a");
        due(maps.rounds(0, 0, 2), 2);
        due(maps.rounds(3, 0, 2), 3);
        says("braid: the braid, 0 or 1");
        maps.flip(0, 2);
        letters(0, "ab");
        letters(1, "b");
        due(maps.rounds(0, 0, 3), 3);
        due(maps.rounds(0, 1, 3), 2);
        says("s: the number of points of the tuples, 2 to 4");
        maps.flip(0, 6);
        letters(0, "a");
        due(maps.rounds(0, 0, 2), 2);
        letters(0, "ab");
        due(maps.rounds(0, 0, 3), 3);
        letters(0, "abc");
        due(maps.rounds(0, 0, 4), 4);
        says("Returns the number");
        for (int n = 1; n <= 6; n++) {
            maps.flip(0, n);
            letters(0, "");
            due(maps.rounds(0, 0, 2), 1);
            due(maps.rounds(0, 0, 4), 1);
            letters(0, "aA");
            due(maps.rounds(0, 0, 2), 1);
            letters(0, "abc");
            due(maps.rounds(0, 0, 4), n == 1 ? 1 : 4);
        }
        says("NONE if there is none up to 60");
        letters(0, "a");
        // 62, 63 and 72 times would do, each a cycle of up to 36 pairs alone would not.
        fillCycles(0, 6, 31, 2);
        due(maps.rounds(0, 0, 2), NONE);
        fillCycles(0, 4, 7, 9);
        due(maps.rounds(0, 0, 2), NONE);
        fillCycles(0, 5, 9, 8, 8);
        due(maps.rounds(0, 0, 2), NONE);
        fillCycles(0, 6, 36);
        due(maps.rounds(0, 0, 2), 36);
        // One pair never comes back, the last one or the first one.
        maps.put(0, 5, 5, 5, 5);
        due(maps.rounds(0, 0, 2), NONE);
        says("NONE if there is none");
        fillCycles(0, 2, 1);
        maps.put(0, 0, 0, 0, 1);
        letters(0, "a");
        due(maps.rounds(0, 0, 2), NONE);
        maps.put(0, 0, 0, 0, 0);
        due(maps.rounds(0, 0, 2), 1);
        maps.put(0, 1, 1, 1, 0);
        due(maps.rounds(0, 0, 2), NONE);
        due(maps.rounds(0, 0, 4), NONE);
        says("UNKNOWN if there is no such map or braid");
        maps.flip(0, 2);
        maps.write(0, 'c');
        for (int s : new int[] {1, 2, 4, 5}) {
            due(maps.rounds(1, 0, s), UNKNOWN);
            for (int place : NOT_OF_FOUR) {
                due(maps.rounds(place, 0, s), UNKNOWN);
            }
            for (int braid : new int[] {-1, 2, LOW, HIGH}) {
                due(maps.rounds(0, braid, s), UNKNOWN);
            }
        }
        roundsErrors();
    }

    private static void allTuples() {
        says("so that all tuples are as they were at the beginning.");
        // Two pairs alone change places, and later come back.
        for (int first = 0; first < 9; first++) {
            for (int second = 0; second < first; second++) {
                fillMoves(first, second);
                due(maps.rounds(0, 0, 2), 2);
                due(maps.rounds(0, 0, 3), 2);
                due(maps.rounds(0, 0, 4), 2);
                letters(0, "c");
                due(maps.rounds(0, 0, 4), 2);
            }
        }
        // Three pairs come back after three times, two others after two times.
        for (int step : new int[] {1, 2, 4, 5, 7, 8}) {
            for (int start = 0; start < 9; start++) {
                int[] pairs = new int[5];
                for (int i = 0; i < 5; i++) {
                    pairs[i] = (start + i * step) % 9;
                }
                fillMoves(pairs);
                for (int s = 2; s <= 4; s++) {
                    due(maps.rounds(0, 0, s), 6);
                }
            }
        }
    }

    /** The map with three points that turns the last two of these pairs, and those before them, each in a cycle. */
    private static void fillMoves(int... pairs) {
        maps = new ThreeStrandMaps();
        fillCycles(0, 3, 1);
        int last = pairs.length - 2;
        for (int i = 0; i < pairs.length; i++) {
            int next = i < last ? (i + 1) % last : last + (i + 1 - last) % 2;
            maps.put(0, pairs[i] / 3, pairs[i] % 3, pairs[next] / 3, pairs[next] % 3);
        }
        letters(0, "a");
    }

    private static void roundsErrors() {
        says("OUTSIDE if s is out of range");
        maps.flip(0, 2);
        letters(1, "c");
        for (int s : new int[] {0, 1, 5, -1, LOW, HIGH}) {
            due(maps.rounds(0, 0, s), OUTSIDE);
            due(maps.rounds(0, 1, s), OUTSIDE);
        }
        says("NOT if the braid does not fit the map and s.");
        maps.flip(0, 2);
        maps.flip(1, 2);
        maps.put(1, 1, 1, 0, 0);
        letters(0, "ab");
        letters(1, "A");
        due(maps.rounds(0, 0, 2), NOT);
        due(maps.rounds(0, 0, 3), 3);
        due(maps.rounds(0, 1, 2), 2);
        due(maps.rounds(1, 1, 2), NOT);
        due(maps.rounds(1, 1, 4), NOT);
        due(maps.rounds(1, 0, 3), NONE);
        maps.write(0, 'c');
        due(maps.rounds(0, 0, 3), NOT);
        due(maps.rounds(0, 0, 4), 4);
    }

    private static void part() {
        under("Promise 30: part");
        says("Returns the lexicographically first tuple for which the two braids give different results.");
        maps.flip(0, 3);
        letters(0, "b");
        // 0, 0, 1 comes before 0, 1, 0, and has the greater code.
        due(maps.part(0, 3), code(0, 0, 1));
        letters(1, "b");
        due(maps.part(0, 3), NONE);
        letters(1, "a");
        due(maps.part(0, 3), code(0, 0, 1));
        says("map: the place of the map");
        maps.flip(0, 1);
        maps.flip(3, 2);
        letters(1, "a");
        due(maps.part(0, 2), NONE);
        due(maps.part(3, 2), code(0, 1));
        says("s: the number of points of the tuple, 2 to 4");
        maps.flip(0, 6);
        letters(0, "a");
        due(maps.part(0, 2), code(0, 1));
        due(maps.part(0, 3), code(0, 1, 0));
        due(maps.part(0, 4), code(0, 1, 0, 0));
        says("Returns the code of the tuple");
        // The first tuple of all, then the last one alone.
        fillCycles(0, 2, 4);
        letters(0, "a");
        due(maps.part(0, 2), 0);
        due(maps.part(0, 4), 0);
        fillCycles(0, 6, 1);
        maps.put(0, 5, 5, 0, 0);
        due(maps.part(0, 2), code(5, 5));
        due(maps.part(0, 4), code(5, 5, 0, 0));
        letters(0, "abc");
        due(maps.part(0, 4), code(0, 0, 5, 5));
        says("NONE if there is none");
        maps.group(0, 2, 6);
        due(maps.part(0, 2), NONE);
        letters(0, "aba");
        letters(1, "bab");
        due(maps.part(0, 3), NONE);
        due(maps.part(0, 4), NONE);
        letters(0, "aA");
        letters(1, "");
        due(maps.part(0, 2), NONE);
        says("UNKNOWN if there is no such map");
        letters(0, "c");
        for (int s : new int[] {1, 2, 4, 5}) {
            due(maps.part(0, s), UNKNOWN);
            for (int place : NOT_OF_FOUR) {
                due(maps.part(place, s), UNKNOWN);
            }
        }
        says("OUTSIDE if s is out of range");
        maps.flip(0, 2);
        for (int s : new int[] {0, 1, 5, -1, LOW, HIGH}) {
            due(maps.part(0, s), OUTSIDE);
        }
        letters(0, "c");
        for (int s : new int[] {0, 1, 5, -1, LOW, HIGH}) {
            due(maps.part(0, s), OUTSIDE);
        }
        says("NOT if one of the braids does not fit the map and s.");
        maps.flip(0, 2);
        maps.flip(1, 2);
        maps.put(1, 1, 1, 0, 0);
        for (int braid = 0; braid < 2; braid++) {
            letters(1 - braid, "");
            letters(braid, "b");
            due(maps.part(0, 2), NOT);
            due(maps.part(0, 3), code(0, 0, 1));
            letters(braid, "c");
            due(maps.part(0, 3), NOT);
            due(maps.part(0, 4), code(0, 0, 0, 1));
            letters(braid, "A");
            due(maps.part(0, 2), code(0, 1));
            due(maps.part(1, 2), NOT);
            due(maps.part(1, 4), NOT);
            letters(braid, "a");
            due(maps.part(1, 2), code(0, 1));
        }
    }
}
