import java.lang.reflect.InvocationTargetException;
import java.lang.reflect.Method;
import java.lang.reflect.Modifier;
import java.util.ArrayList;
import java.util.Arrays;
import java.util.Comparator;
import java.util.List;

/** Long runs of calls, the same ones each time, on an object of the program and on the model. */
public final class AgainstModelTest {
    private static final int RUNS = 400;
    private static final int CALLS = 512;
    private static final int[] FAR = {Integer.MIN_VALUE, -1000001, -2, 7, 8, 64, 4096, 262144, Integer.MAX_VALUE};

    // What an argument stands for, a letter each: p place, n points, k kind, u brace, x point, f permutation, w what of
    // whole, o 0 or 1, i index, j index or -1, s set, m times, l letters, b braid, t strands, c letter, d code, e count.
    private static final String[] METHODS = {
        "flip pn", "twist pnff", "group pkn", "brace pnu", "braces nj", "put pxxxx", "put pxxxx", "retract pp",
        "unite ppp", "pair ppp", "invert pp", "mirror pp", "rename pfp", "drop p", "cell pxxo", "whole pw", "whole pw",
        "whole pw", "fails pi", "orbit px", "shut ps", "alike px", "power pxxm", "like ppj", "words pl", "least pld",
        "write bc", "write bc", "write bc", "erase b", "through pbtd", "stays pbt", "rounds pbt", "part pt", "listed n",
        "take nip", "count e"};

    private static long state = 1;

    private static int below(int bound) {
        state = state * 6364136223846793005L + 1442695040888963407L;
        return (int) Long.remainderUnsigned(state >>> 33, bound);
    }

    public static void main(String[] args) throws ReflectiveOperationException {
        Due due = new Due();
        for (int run = 0; run < RUNS; run++) {
            ThreeStrandMaps program = new ThreeStrandMaps();
            Model model = new Model();
            int call = run % 4 < 2 ? 0 : spoil(due, program, model, run % 4 == 2);
            while (call < CALLS) {
                makeCall(due, "run " + run, program, model, run);
                call++;
            }
        }
        due.end();
    }

    /** Puts other images on all pairs of the maps at places 0 and 1; answers with the number of calls. */
    private static int spoil(Due due, ThreeStrandMaps program, Model model, boolean bijective) {
        int calls = 0;
        for (int place = 0; place < 2; place++) {
            int n = 2 + below(5);
            List<Integer> images = new ArrayList<>();
            for (int i = 0; i < n * n; i++) {
                images.add(bijective ? i : below(n * n));
            }
            due.is("flip", program.flip(place, n), model.flip(place, n));
            for (int i = 0; i < n * n; i++) {
                int image = images.remove(below(images.size()));
                due.is("put", program.put(place, i / n, i % n, image / n, image % n),
                    model.put(place, i / n, i % n, image / n, image % n));
            }
            calls += 1 + n * n;
        }
        return calls;
    }

    private static void makeCall(Due due, String run, ThreeStrandMaps program, Model model, int style)
            throws ReflectiveOperationException {
        String[] method = METHODS[below(METHODS.length)].split(" ");
        // In some runs few calls spoil the maps, so that long histories of sound maps come about.
        if (style % 3 == 0 && (method[0].equals("put") || method[0].equals("drop")) && below(10) > 0) {
            return;
        }
        // Retractions soon leave nothing but single points.
        if (method[0].equals("retract") && below(3) > 0) {
            return;
        }
        int points = below(2) == 0 ? 1 + below(6) : 3 + below(4);
        int place = below(4);
        if (below(3) > 0 && model.whole(place, 0) > 0) {
            points = model.whole(place, 0);
        }
        int[] values = new int[method[1].length()];
        boolean first = true;
        int letters = 1 + below(4);
        for (int i = 0; i < values.length; i++) {
            char kind = method[1].charAt(i);
            values[i] = kind == 'p' && first ? place : value(kind, points, letters);
            if (kind == 'l' || kind == 't') {
                letters = values[i];
            }
            first &= kind != 'p';
            if (below(60) == 0) {
                values[i] = below(2) == 0 ? FAR[below(FAR.length)] : -1;
            }
        }
        String text = run + ": " + method[0] + Arrays.toString(values);
        due.is(text, answer(program, method[0], values), answer(model, method[0], values));
    }

    private static int value(char kind, int points, int letters) {
        switch (kind) {
            case 'p': return below(4);
            case 'n': return points;
            case 'k': return below(3);
            case 'u': return brace(points);
            case 'x': return below(points);
            case 'f': return permutation(points);
            case 'w': return below(15);
            case 'o': return below(2);
            case 'i': return below(below(3) == 0 ? 240 : 6);
            case 'j': return below(below(3) == 0 ? 800 : 8) - 1;
            case 's': return below(1 << points);
            case 'm': return below(4) == 0 ? below(1003) : below(20);
            case 'l': return letters;
            case 't': return 2 + below(3);
            case 'b': return below(2);
            case 'c': return below(8) == 0 ? below(130) : "abcABCaaabbA".charAt(below(12));
            case 'd': return code(points, Math.max(0, Math.min(letters, 5)));
            case 'e': return below(4);
            default: throw new IllegalArgumentException("no such argument: " + kind);
        }
    }

    private static int brace(int points) {
        if (points == 1 || below(3) == 0) {
            return code(points, points);
        }
        return new Model().braces(points, below(new Model().braces(points, -1)));
    }

    private static int code(int points, int length) {
        int code = 0;
        for (int i = 0; i < length; i++) {
            code = code * 8 + below(points);
        }
        return code;
    }

    private static int permutation(int points) {
        List<Integer> rest = new ArrayList<>();
        for (int x = 0; x < points; x++) {
            rest.add(x);
        }
        int code = 0;
        for (int x = 0; x < points; x++) {
            code = code * 8 + rest.remove(below(rest.size()));
        }
        return code;
    }

    private static int answer(Object object, String name, int[] values) throws ReflectiveOperationException {
        Method method = Arrays.stream(object.getClass().getDeclaredMethods())
            .filter(m -> m.getName().equals(name) && Modifier.isPublic(m.getModifiers()))
            .min(Comparator.comparing(Method::toString)).get();
        try {
            return (Integer) method.invoke(object, Arrays.stream(values).boxed().toArray());
        } catch (InvocationTargetException failure) {
            System.out.println(name + Arrays.toString(values) + " threw " + failure.getCause());
            return Integer.MIN_VALUE;
        }
    }
}
