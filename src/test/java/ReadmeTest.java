import java.io.IOException;
import java.lang.reflect.Constructor;
import java.lang.reflect.Method;
import java.lang.reflect.Modifier;
import java.nio.file.Files;
import java.nio.file.Path;
import java.util.ArrayList;
import java.util.Arrays;
import java.util.HashMap;
import java.util.List;
import java.util.Map;
import java.util.TreeSet;
import java.util.regex.MatchResult;
import java.util.regex.Matcher;
import java.util.regex.Pattern;
import java.util.stream.Stream;

/** What README.md shows of calls and answers is so, and it names every method and every test. */
public final class ReadmeTest {
    private static final Path README = Path.of("README.md");
    private static final Path TESTS = Path.of("src/test/java");

    private static final Pattern BLOCK = Pattern.compile("(?s)```java\n(.*?)```");
    private static final Pattern NEW_OBJECT = Pattern.compile("ThreeStrandMaps maps = new ThreeStrandMaps\\(\\);");
    // A call with its answer: maps.flip(0, 3); // 3: what it means
    private static final Pattern CALL =
        Pattern.compile("\\s*(?:int \\w+ = )?maps\\.(\\w+)\\((.*?)\\);\\s*// (-?\\d+|[A-Z]+)(?:: .*)?");
    // In the table of the methods: `flip(to, n)`
    private static final Pattern TABLED = Pattern.compile("`(\\w+)\\(([^`]*)\\)`");

    private static final Due DUE = new Due();
    private static final Map<String, Method> METHODS = new HashMap<>();

    public static void main(String[] args) throws IOException, ReflectiveOperationException {
        for (Method method : ThreeStrandMaps.class.getDeclaredMethods()) {
            if (Modifier.isPublic(method.getModifiers())) {
                METHODS.put(method.getName(), method);
            }
        }
        String text = Files.readString(README);
        checkExamples(text);
        checkTable(text);
        checkTests(text);
        DUE.end();
    }

    private static void holds(String what, boolean holds) {
        DUE.is(what, holds ? 1 : 0, 1);
    }

    private static void checkExamples(String text) throws ReflectiveOperationException {
        Constructor<ThreeStrandMaps> constructor = ThreeStrandMaps.class.getDeclaredConstructor();
        ThreeStrandMaps maps = constructor.newInstance();
        int calls = 0;
        for (MatchResult block : BLOCK.matcher(text).results().toList()) {
            for (String line : block.group(1).split("\n")) {
                Matcher call = CALL.matcher(line);
                if (call.matches()) {
                    DUE.is(line, answer(maps, call.group(1), call.group(2)), value(call.group(3)));
                    calls++;
                } else if (NEW_OBJECT.matcher(line.strip()).matches()) {
                    maps = constructor.newInstance();
                } else {
                    holds("a line without a call: " + line, line.isBlank() || line.startsWith("// "));
                }
            }
        }
        holds("the examples call, " + calls, calls > 0);
    }

    private static int answer(ThreeStrandMaps maps, String name, String arguments) throws ReflectiveOperationException {
        holds("there is a method " + name, METHODS.containsKey(name));
        Object[] values = Arrays.stream(arguments.split(", ")).map(ReadmeTest::value).toArray();
        return (Integer) METHODS.get(name).invoke(maps, values);
    }

    /** Reads a sum of products of numbers, a sign as 'a', or the name of a constant. */
    private static Integer value(String text) {
        int sum = 0;
        for (String part : text.split(" \\+ ")) {
            int product = 1;
            for (String factor : part.split(" \\* ")) {
                product *= factor(factor);
            }
            sum += product;
        }
        return sum;
    }

    private static int factor(String text) {
        switch (text) {
            case "NONE": return ThreeStrandMaps.NONE;
            case "UNKNOWN": return ThreeStrandMaps.UNKNOWN;
            case "OUTSIDE": return ThreeStrandMaps.OUTSIDE;
            case "NOT": return ThreeStrandMaps.NOT;
            case "FULL": return ThreeStrandMaps.FULL;
            default: return text.matches("'.'") ? text.charAt(1) : Integer.parseInt(text);
        }
    }

    private static void checkTable(String text) {
        TreeSet<String> tabled = new TreeSet<>();
        for (MatchResult method : TABLED.matcher(text).results().toList()) {
            String name = method.group(1);
            holds("named once: " + name, tabled.add(name));
            int parameters = METHODS.containsKey(name) ? METHODS.get(name).getParameterCount() : 0;
            DUE.is("parameters of " + name, method.group(2).split(", ").length, parameters);
        }
        holds("all methods are named, " + tabled, tabled.equals(new TreeSet<>(METHODS.keySet())));
    }

    private static void checkTests(String text) throws IOException {
        List<String> tests = new ArrayList<>();
        try (Stream<Path> files = Files.list(TESTS)) {
            files.map(file -> file.getFileName().toString()).filter(name -> name.endsWith("Test.java"))
                .forEach(name -> tests.add(name.replace(".java", "")));
        }
        for (String test : tests) {
            holds("it says what the test does: " + test, text.contains("`" + test + "`"));
        }
        for (MatchResult named : Pattern.compile("`(\\w+Test)`").matcher(text).results().toList()) {
            holds("there is such a test: " + named.group(1), tests.contains(named.group(1)));
        }
    }
}
