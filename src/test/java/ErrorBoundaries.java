import java.lang.reflect.Modifier;
import java.util.ArrayList;
import java.util.Arrays;
import java.util.List;
import java.util.function.ToIntFunction;

/** The sentences of the document's "Errors": which error a call returns, and that it changes nothing. */
final class ErrorBoundaries extends Sentences {
    private static final int TWO = 1 << 3, UNITS = 1 | 1 << 3 | 1 << 6 | 3 << 9;

    private static final List<Integer> UNTOUCHED = stateOf(furnished());

    private ErrorBoundaries() {
    }

    /**
     * An object for calls that fail: a map with six points at place 0, one with three that is neither bijective nor left
     * nondegenerate at place 1, none at place 2, one with a single point at place 3, a full braid 0, and a braid 1 that
     * needs four points.
     */
    private static ThreeStrandMaps furnished() {
        ThreeStrandMaps object = new ThreeStrandMaps();
        object.group(0, 2, 6);
        object.twist(1, 3, code(1, 2, 0), code(0, 2, 1));
        object.put(1, 2, 2, 1, 1);
        object.flip(3, 1);
        for (char letter : "abcABCabcACBabcBACabcBCA".toCharArray()) {
            object.write(0, letter);
        }
        object.write(1, 'c');
        return object;
    }

    private static List<Integer> stateOf(ThreeStrandMaps object) {
        List<Integer> state = new ArrayList<>();
        for (int place = 0; place < 4; place++) {
            int n = object.whole(place, 0);
            state.add(n);
            for (int pair = 0; pair < n * n; pair++) {
                state.add(object.cell(place, pair / n, pair % n, 0));
                state.add(object.cell(place, pair / n, pair % n, 1));
            }
        }
        for (int what = 0; what < 4; what++) {
            state.add(object.count(what));
        }
        for (int braid = 0; braid < 2; braid++) {
            for (int x = 0; x < 6; x++) {
                state.add(object.through(0, braid, 4, code(x, 3, 4, 1)));
                state.add(object.through(0, braid, 4, code(5, x, 0, 3)));
            }
        }
        return state;
    }

    /** The call answers so, and leaves the object as it was. */
    private static void answers(int want, ToIntFunction<ThreeStrandMaps> call) {
        ThreeStrandMaps object = furnished();
        due(call.applyAsInt(object), want);
        due(stateOf(object).equals(UNTOUCHED) ? 1 : 0, 1);
    }

    static void check() {
        under("Errors");
        says("The constructor and the methods follow, a promise each: the signature, then what it does.");
        due(Arrays.stream(ThreeStrandMaps.class.getDeclaredMethods())
            .filter(method -> Modifier.isPublic(method.getModifiers())).count(), 32);
        unknown();
        outside();
        notAndFull();
        unknownFirst();
        outsideBeforeTheOthers();
        nothingChanges();
        none();
    }

    private static void unknown() {
        says("UNKNOWN: there is no such place, no map at a place from which one is needed, no such point of the map, or no "
            + "such braid.");
        for (int bad : NOT_OF_FOUR) {
            makingAt(UNKNOWN, bad);
            fromPlace(UNKNOWN, bad);
        }
        // The place 2 is empty: a map can be made there, but none is there.
        fromPlace(UNKNOWN, 2);
        maps = furnished();
        due(maps.flip(2, 2), 2);
        due(maps.drop(2), 2);
        due(maps.mirror(0, 2), 6);
        for (int bad : new int[] {-1, 3, 6, LOW, HIGH}) {
            answers(UNKNOWN, x -> x.put(1, bad, 0, 0, 0));
            answers(UNKNOWN, x -> x.put(1, 0, bad, 0, 0));
            answers(UNKNOWN, x -> x.put(1, 0, 0, bad, 0));
            answers(UNKNOWN, x -> x.put(1, 0, 0, 0, bad));
            answers(UNKNOWN, x -> x.cell(1, bad, 0, 0));
            answers(UNKNOWN, x -> x.cell(1, 0, bad, 0));
            answers(UNKNOWN, x -> x.orbit(1, bad));
            answers(UNKNOWN, x -> x.alike(1, bad));
            answers(UNKNOWN, x -> x.power(1, bad, 0, 0));
            answers(UNKNOWN, x -> x.power(1, 0, bad, 0));
        }
        for (int bad : new int[] {-1, 2, LOW, HIGH}) {
            answers(UNKNOWN, x -> x.write(bad, 'a'));
            answers(UNKNOWN, x -> x.erase(bad));
            answers(UNKNOWN, x -> x.through(0, bad, 4, 0));
            answers(UNKNOWN, x -> x.stays(0, bad, 4));
            answers(UNKNOWN, x -> x.rounds(0, bad, 4));
        }
    }

    /** The calls that make a map at that place, with no other error. */
    private static void makingAt(int want, int place) {
        answers(want, x -> x.flip(place, 2));
        answers(want, x -> x.twist(place, 2, TWO, TWO));
        answers(want, x -> x.group(place, 0, 2));
        answers(want, x -> x.brace(place, 2, TWO + 1));
        answers(want, x -> x.retract(0, place));
        answers(want, x -> x.unite(1, 1, place));
        answers(want, x -> x.pair(0, 3, place));
        answers(want, x -> x.invert(0, place));
        answers(want, x -> x.mirror(0, place));
        answers(want, x -> x.rename(1, identity(3), place));
        answers(want, x -> x.take(4, 22, place));
    }

    /** The calls that need a map at that place, with no other error. */
    private static void fromPlace(int want, int place) {
        answers(want, x -> x.put(place, 0, 0, 0, 0));
        answers(want, x -> x.retract(place, 0));
        answers(want, x -> x.unite(place, 3, 0));
        answers(want, x -> x.unite(3, place, 0));
        answers(want, x -> x.pair(place, 3, 0));
        answers(want, x -> x.pair(3, place, 0));
        answers(want, x -> x.invert(place, 0));
        answers(want, x -> x.mirror(place, 0));
        answers(want, x -> x.rename(place, 0, 0));
        answers(want, x -> x.drop(place));
        answers(want, x -> x.cell(place, 0, 0, 0));
        answers(want, x -> x.whole(place, 0));
        answers(want, x -> x.fails(place, 0));
        answers(want, x -> x.orbit(place, 0));
        answers(want, x -> x.shut(place, 0));
        answers(want, x -> x.alike(place, 0));
        answers(want, x -> x.power(place, 0, 0, 0));
        answers(want, x -> x.like(place, 0, -1));
        answers(want, x -> x.like(0, place, -1));
        answers(want, x -> x.words(place, 1));
        answers(want, x -> x.least(place, 1, 0));
        answers(want, x -> x.through(place, 0, 4, 0));
        answers(want, x -> x.stays(place, 0, 4));
        answers(want, x -> x.rounds(place, 0, 4));
        answers(want, x -> x.part(place, 4));
    }

    private static void outside() {
        says("OUTSIDE: another argument is out of its range.");
        for (int place = 0; place < 4; place++) {
            outsideAt(OUTSIDE, place);
        }
        answers(OUTSIDE, x -> x.braces(1, 0));
        answers(OUTSIDE, x -> x.braces(7, 0));
        answers(OUTSIDE, x -> x.braces(2, -2));
        answers(OUTSIDE, x -> x.listed(0));
        answers(OUTSIDE, x -> x.listed(5));
        answers(OUTSIDE, x -> x.count(-1));
        answers(OUTSIDE, x -> x.count(4));
        for (int place : new int[] {0, 1, 3}) {
            outsideOf(OUTSIDE, place);
        }
        for (int braid = 0; braid < 2; braid++) {
            int b = braid;
            answers(OUTSIDE, x -> x.write(b, 'd'));
            answers(OUTSIDE, x -> x.write(b, 'D'));
        }
    }

    /** The calls that would make a map at that place, with arguments out of their range. */
    private static void outsideAt(int want, int to) {
        answers(want, x -> x.flip(to, 0));
        answers(want, x -> x.flip(to, 7));
        answers(want, x -> x.twist(to, 0, 0, 0));
        answers(want, x -> x.twist(to, 7, identity(7), identity(7)));
        answers(want, x -> x.twist(to, 2, 0, TWO));
        answers(want, x -> x.twist(to, 2, TWO, 0));
        answers(want, x -> x.group(to, -1, 4));
        answers(want, x -> x.group(to, 3, 6));
        answers(want, x -> x.group(to, 0, 0));
        answers(want, x -> x.group(to, 0, 7));
        answers(want, x -> x.group(to, 1, 6));
        answers(want, x -> x.group(to, 2, 4));
        answers(want, x -> x.brace(to, 1, 1));
        answers(want, x -> x.brace(to, 7, identity(7)));
        answers(want, x -> x.brace(to, 2, TWO));
        answers(want, x -> x.rename(1, 0, to));
        answers(want, x -> x.rename(1, identity(4), to));
        answers(want, x -> x.take(0, 0, to));
        answers(want, x -> x.take(5, 0, to));
        answers(want, x -> x.take(4, -1, to));
    }

    /** The calls that ask the map at that place, with arguments out of their range. */
    private static void outsideOf(int want, int map) {
        answers(want, x -> x.cell(map, 0, 0, -1));
        answers(want, x -> x.cell(map, 0, 0, 2));
        answers(want, x -> x.whole(map, -1));
        answers(want, x -> x.whole(map, 15));
        answers(want, x -> x.fails(map, -1));
        answers(want, x -> x.shut(map, -1));
        answers(want, x -> x.shut(map, 64));
        answers(want, x -> x.power(map, 0, 0, -1));
        answers(want, x -> x.power(map, 0, 0, 1001));
        answers(want, x -> x.like(map, 0, -2));
        answers(want, x -> x.like(0, map, -2));
        answers(want, x -> x.words(map, 0));
        answers(want, x -> x.words(map, 5));
        answers(want, x -> x.least(map, 0, 0));
        answers(want, x -> x.least(map, 5, 0));
        answers(want, x -> x.least(map, 1, 6));
        answers(want, x -> x.least(map, 1, 8));
        for (int s : new int[] {1, 5}) {
            answers(want, x -> x.through(map, 0, s, 0));
            answers(want, x -> x.stays(map, 0, s));
            answers(want, x -> x.rounds(map, 0, s));
            answers(want, x -> x.part(map, s));
        }
        answers(want, x -> x.through(map, 1, 4, 6));
        answers(want, x -> x.through(map, 1, 4, 1 << 12));
    }

    private static void notAndFull() {
        says("NOT, FULL: as the methods say.");
        answers(NOT, x -> x.brace(0, 4, UNITS));
        answers(NOT, x -> x.invert(1, 0));
        answers(NOT, x -> x.through(0, 1, 3, 0));
        answers(NOT, x -> x.through(1, 0, 4, 0));
        answers(NOT, x -> x.stays(0, 1, 2));
        answers(NOT, x -> x.stays(1, 0, 4));
        answers(NOT, x -> x.rounds(0, 1, 3));
        answers(NOT, x -> x.rounds(1, 0, 4));
        answers(NOT, x -> x.part(0, 3));
        answers(NOT, x -> x.part(1, 4));
        answers(FULL, x -> x.unite(0, 1, 2));
        answers(FULL, x -> x.unite(3, 0, 1));
        answers(FULL, x -> x.pair(1, 0, 2));
        answers(FULL, x -> x.pair(1, 1, 1));
        answers(FULL, x -> x.write(0, 'a'));
    }

    private static void unknownFirst() {
        says("If several errors apply, the first one in the order UNKNOWN, OUTSIDE, NOT, FULL is returned.");
        for (int place : new int[] {-1, 4}) {
            outsideAt(UNKNOWN, place);
            answers(UNKNOWN, x -> x.brace(place, 4, UNITS));
            answers(UNKNOWN, x -> x.invert(1, place));
            answers(UNKNOWN, x -> x.unite(0, 1, place));
            answers(UNKNOWN, x -> x.pair(0, 1, place));
        }
        for (int place : new int[] {-1, 2, 4}) {
            outsideOf(UNKNOWN, place);
            answers(UNKNOWN, x -> x.rename(place, -1, 0));
            answers(UNKNOWN, x -> x.through(place, 1, 3, 0));
            answers(UNKNOWN, x -> x.stays(place, 1, 3));
            answers(UNKNOWN, x -> x.rounds(place, 1, 3));
            answers(UNKNOWN, x -> x.part(place, 3));
        }
        for (int bad : new int[] {-1, 6}) {
            answers(UNKNOWN, x -> x.cell(0, bad, 0, 2));
            answers(UNKNOWN, x -> x.cell(0, 0, bad, -1));
            answers(UNKNOWN, x -> x.power(0, bad, 0, -1));
            answers(UNKNOWN, x -> x.power(0, 0, bad, 1001));
        }
        for (int braid : new int[] {-1, 2}) {
            answers(UNKNOWN, x -> x.write(braid, 'd'));
            answers(UNKNOWN, x -> x.through(0, braid, 1, 0));
            answers(UNKNOWN, x -> x.through(0, braid, 4, -1));
            answers(UNKNOWN, x -> x.stays(0, braid, 5));
            answers(UNKNOWN, x -> x.rounds(0, braid, 1));
        }
    }

    private static void outsideBeforeTheOthers() {
        says("the first one in the order UNKNOWN, OUTSIDE, NOT, FULL");
        answers(OUTSIDE, x -> x.write(0, 'd'));
        answers(OUTSIDE, x -> x.write(0, LOW));
        // The braid 0 does not fit the map at place 1 either, and braid 1 fits no map with s = 1.
        answers(OUTSIDE, x -> x.through(1, 0, 5, 0));
        answers(OUTSIDE, x -> x.through(1, 0, 4, 3));
        answers(OUTSIDE, x -> x.through(0, 1, 1, 0));
        answers(OUTSIDE, x -> x.through(0, 1, 3, 6));
        answers(OUTSIDE, x -> x.stays(1, 0, 5));
        answers(OUTSIDE, x -> x.stays(0, 1, 1));
        answers(OUTSIDE, x -> x.rounds(1, 0, 5));
        answers(OUTSIDE, x -> x.rounds(0, 1, 1));
        answers(OUTSIDE, x -> x.part(1, 5));
        answers(OUTSIDE, x -> x.part(0, 1));
        // No brace, for u has a number that is not coprime to n.
        answers(OUTSIDE, x -> x.brace(0, 4, code(1, 2, 1, 3)));
        answers(OUTSIDE, x -> x.brace(0, 4, UNITS | 1 << 12));
    }

    private static void nothingChanges() {
        says("A call that returns an error changes nothing.");
        // Calls before and after it answer as if it had not been made.
        maps = furnished();
        due(maps.flip(0, 7), OUTSIDE);
        due(maps.twist(1, 3, 0, 0), OUTSIDE);
        due(maps.unite(0, 1, 1), FULL);
        due(maps.invert(1, 0), NOT);
        due(maps.write(0, 'a'), FULL);
        due(maps.erase(2), UNKNOWN);
        due(maps.put(0, 0, 0, 1, 6), UNKNOWN);
        due(stateOf(maps).equals(UNTOUCHED) ? 1 : 0, 1);
        due(maps.write(1, 'A'), 2);
        due(maps.write(1, 'd'), OUTSIDE);
        due(maps.write(1, 'a'), 3);
        due(stateOf(maps).equals(UNTOUCHED) ? 1 : 0, 0);
    }

    private static void none() {
        says("NONE is not an error");
        due(ThreeStrandMaps.NONE, NONE);
        answers(NONE, x -> x.take(4, 23, 0));
        answers(NONE, x -> x.take(1, 1, 2));
        says("it means that there is no such thing, and is returned only if no error applies.");
        answers(NONE, x -> x.braces(2, 1));
        answers(OUTSIDE, x -> x.braces(7, 9));
        answers(OUTSIDE, x -> x.braces(1, HIGH));
        answers(NONE, x -> x.whole(0, 9));
        answers(NONE, x -> x.whole(1, 10));
        answers(NONE, x -> x.whole(1, 12));
        answers(NONE, x -> x.whole(0, 14));
        answers(UNKNOWN, x -> x.whole(2, 9));
        answers(NONE, x -> x.fails(0, 0));
        answers(UNKNOWN, x -> x.fails(2, 0));
        answers(NONE, x -> x.like(0, 0, 6));
        answers(NONE, x -> x.like(0, 1, 0));
        answers(UNKNOWN, x -> x.like(0, 2, 0));
        answers(OUTSIDE, x -> x.like(0, 1, -2));
        answers(NONE, x -> x.rounds(1, 1, 4));
        answers(NOT, x -> x.rounds(1, 1, 3));
        answers(OUTSIDE, x -> x.take(4, -1, 0));
        answers(OUTSIDE, x -> x.take(5, HIGH, 0));
        answers(UNKNOWN, x -> x.take(4, 23, 4));
        answers(UNKNOWN, x -> x.part(2, 4));
        answers(NONE, x -> x.part(3, 4));
        answers(NOT, x -> x.part(3, 3));
    }
}
