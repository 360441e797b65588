import java.lang.reflect.Constructor;
import java.lang.reflect.Field;
import java.lang.reflect.Method;
import java.lang.reflect.Modifier;
import java.util.Arrays;
import java.util.Map;
import java.util.Set;
import java.util.TreeMap;
import java.util.TreeSet;

/** The public face of the document, and that there is no other one. */
public final class FaceTest {
    // How many arguments each method has; all are int, as the answers are.
    private static final String METHODS = "flip 2 twist 4 group 3 brace 3 braces 2 put 5 retract 2 unite 3 pair 3 "
        + "invert 2 mirror 2 rename 3 drop 1 cell 4 whole 2 fails 2 orbit 2 shut 2 alike 2 power 4 like 3 words 2 "
        + "least 3 write 2 erase 1 through 4 stays 3 rounds 3 part 2 listed 1 take 3 count 1";
    private static final Map<String, Integer> CONSTANTS =
        Map.of("NONE", -1, "UNKNOWN", -1000001, "OUTSIDE", -1000002, "NOT", -1000003, "FULL", -1000004);

    private static final Due DUE = new Due();

    public static void main(String[] args) throws ReflectiveOperationException {
        Class<?> face = ThreeStrandMaps.class;
        due(face.getModifiers(), Modifier.PUBLIC | Modifier.FINAL);
        due(face.getPackageName().length(), 0);
        TreeMap<String, Integer> methods = new TreeMap<>();
        String[] words = METHODS.split(" ");
        for (int i = 0; i < words.length; i += 2) {
            methods.put(words[i], Integer.valueOf(words[i + 1]));
        }
        due(methods.size(), 32);
        checkMethods(face, methods);
        checkFields(face);
        for (Constructor<?> constructor : face.getDeclaredConstructors()) {
            due(constructor.getParameterCount(), 0);
            due(constructor.getModifiers(), Modifier.PUBLIC);
        }
        checkNested(face, methods.keySet());
        DUE.end();
    }

    private static void due(long got, long want) {
        DUE.is(got, want);
    }

    private static void checkMethods(Class<?> face, Map<String, Integer> methods) {
        Set<String> found = new TreeSet<>();
        for (Method method : face.getDeclaredMethods()) {
            if (Modifier.isPrivate(method.getModifiers()) || method.isSynthetic()) {
                DUE.is("a private " + method.getName(), methods.containsKey(method.getName()) ? 1 : 0, 0);
                continue;
            }
            DUE.is(method.getName(), method.getModifiers(), Modifier.PUBLIC);
            DUE.is(method.getName(), method.getParameterCount(), methods.getOrDefault(method.getName(), -1));
            boolean ints = Arrays.stream(method.getParameterTypes()).allMatch(type -> type == int.class);
            DUE.is(method.getName(), ints && method.getReturnType() == int.class ? 1 : 0, 1);
            due(found.add(method.getName()) ? 1 : 0, 1);
        }
        due(found.equals(methods.keySet()) ? 1 : 0, 1);
    }

    private static void checkFields(Class<?> face) throws IllegalAccessException {
        int constants = 0;
        for (Field field : face.getDeclaredFields()) {
            if (!Modifier.isPrivate(field.getModifiers())) {
                due(field.getModifiers(), Modifier.PUBLIC | Modifier.STATIC | Modifier.FINAL);
                DUE.is(field.getName(), field.getInt(null), CONSTANTS.getOrDefault(field.getName(), 0));
                constants++;
            }
        }
        due(constants, CONSTANTS.size());
    }

    private static void checkNested(Class<?> face, Set<String> taken) {
        due(face.getDeclaredClasses().length <= 11 ? 1 : 0, 1);
        for (Class<?> nested : face.getDeclaredClasses()) {
            due(Modifier.isStatic(nested.getModifiers()) ? 1 : 0, 1);
            due(nested.getModifiers() & (Modifier.PUBLIC | Modifier.PROTECTED), 0);
            for (Method method : nested.getDeclaredMethods()) {
                DUE.is(nested.getName() + ": " + method.getName(), taken.contains(method.getName()) ? 1 : 0, 0);
            }
            for (Field field : nested.getDeclaredFields()) {
                int modifiers = field.getModifiers();
                DUE.is(field.getName(), Modifier.isStatic(modifiers) && !Modifier.isFinal(modifiers) ? 1 : 0, 0);
            }
        }
    }
}
