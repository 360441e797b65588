import java.io.IOException;
import java.nio.file.Files;
import java.nio.file.Path;
import java.util.HashMap;
import java.util.HashSet;
import java.util.List;
import java.util.Map;
import java.util.Set;
import java.util.regex.MatchResult;
import java.util.regex.Matcher;
import java.util.regex.Pattern;

/** The rules of ../shared/LANGUAGE.md that a look at the text of the program can find broken. */
public final class LanguageTest {
    private static final Path PROGRAM = Path.of("src/main/java/ThreeStrandMaps.java");
    private static final int MOST_LINES = 60;
    private static final int MOST_PARAMETERS = 7;
    private static final int MOST_CALLS_DEEP = 8;

    // What the rules leave out, each with what the text would show.
    private static final List<String> BARRED = List.of(
        "\\bthrows?\\b", "\\btry\\b", "\\bcatch\\b", "\\bfinally\\b", "\\bsynchronized\\b", "\\bassert\\b", "->", "::",
        "\\bstatic\\s*\\{", "Exact\\s*\\(", "\\bpackage\\b", "\\bvolatile\\b", "\\bSystem\\.(?!arraycopy)",
        "\\b(Object|Random|Thread|Scanner|Map|Set|Stream|Optional|Runtime)\\b", "@\\w+", "\\bvar\\b", "\\byield\\b",
        "\\b(equals|hashCode|toString)\\s*\\(", "while\\s*\\(true\\)", "for\\s*\\(;;", "\\b(float|double)\\b",
        // The library's functions are allowed, its constants are not.
        "\\b(Integer|Long|Math)\\.(?!(compare|max|min|abs|bitCount|floorDiv|floorMod)\\()",
        "\\bArrays\\.(?!(copyOf|copyOfRange|fill)\\()");

    private static final Pattern METHOD = Pattern.compile(
        "(?m)^( +)(?:(?:public|private|static|final) )*(?:[\\w\\[\\]]+ )?(\\w+)\\(([^)]*)\\) \\{\n((?:.*\n)*?)\\1\\}\n");
    private static final Pattern INDEX = Pattern.compile("\\b(?<!new )\\w+\\[([^\\]]+)\\]");

    private static final Due DUE = new Due();

    // The names of the methods that each name calls: methods of one name count as one, so that no call is overlooked.
    private static final Map<String, Set<String>> CALLS = new HashMap<>();

    public static void main(String[] args) throws IOException {
        String text = Files.readString(PROGRAM);
        DUE.is("signs beyond 127", text.chars().filter(c -> c > 127).count(), 0);
        String code = text.replaceAll("(?s)/\\*.*?\\*/", "").replaceAll("//.*", "");
        for (String barred : BARRED) {
            DUE.is(barred, Pattern.compile(barred).matcher(code).results().count(), 0);
        }
        List<String> imports = Pattern.compile("import ([^;]+);").matcher(code).results().map(m -> m.group(1)).toList();
        holds("imports " + imports, imports.equals(List.of("java.util.Arrays")));
        Matcher method = METHOD.matcher(code);
        int methods = 0;
        long indices = 0;
        while (method.find()) {
            methods++;
            checkSize(method.group(2), method.group(3), method.group(4));
            indices += checkIndices(method.group(2), method.group(4));
            Set<String> called = CALLS.computeIfAbsent(method.group(2), name -> new HashSet<>());
            Pattern.compile("\\b(\\w+)\\(").matcher(method.group(4)).results().forEach(m -> called.add(m.group(1)));
        }
        holds("more than 100 methods seen, " + methods, methods > 100);
        DUE.is("every index is seen in a method", indices, INDEX.matcher(code).results().count());
        for (String name : CALLS.keySet()) {
            int deep = depth(name, 1);
            holds(name + " calls " + deep + " deep", deep <= MOST_CALLS_DEEP);
        }
        DUE.end();
    }

    private static void holds(String what, boolean holds) {
        DUE.is(what, holds ? 1 : 0, 1);
    }

    private static void checkSize(String name, String parameters, String body) {
        long lines = body.lines().count();
        holds(name + " has " + lines + " lines", lines <= MOST_LINES);
        int number = parameters.split(",").length;
        holds(name + " has " + number + " parameters", number <= MOST_PARAMETERS);
    }

    /** Each index is masked, or the method looks at it: by a test of both ends, or by a loop from 0 on to a constant. */
    private static int checkIndices(String name, String body) {
        List<MatchResult> indices = INDEX.matcher(body).results().toList();
        for (MatchResult found : indices) {
            String index = found.group(1);
            boolean isMasked = index.matches(".* & (SEEN_)?MASK");
            holds(name + " looks at the index of " + found.group(), isMasked || isLookedAt(index, body, found.start()));
        }
        return indices.size();
    }

    private static boolean isLookedAt(String index, String body, int used) {
        if (!index.matches("\\w+")) {
            return false;
        }
        String change = "\\b" + index + "(\\+\\+|--| ([-+*/|&^]|<<|>>)?= )";
        // A number that was masked stays looked at as long as nothing else becomes of it.
        if (number(body, "int " + index + " = .* & (SEEN_)?MASK;") == 1 && number(body, change) == 1) {
            return true;
        }
        String look = "\\b(isPlace|isBraid|hasIndex)\\(" + index + "\\)"
            + "|\\b" + index + " >= 0 && " + index + " < [A-Z_]+\\b"
            + "|\\bfor \\(int " + index + " = 0; " + index + " <=? [A-Z_]+\\b[^;]*; " + index + "\\+\\+\\)";
        int looked = Pattern.compile(look).matcher(body.substring(0, used)).results()
            .mapToInt(MatchResult::end).max().orElse(-1);
        return looked >= 0 && number(body.substring(looked, used), change) == 0;
    }

    private static long number(String body, String pattern) {
        return Pattern.compile(pattern).matcher(body).results().count();
    }

    /** How deep the calls of a method go, itself counted; a method that calls itself goes deeper than any bound. */
    private static int depth(String name, int above) {
        int deepest = 0;
        for (String called : CALLS.getOrDefault(name, Set.of())) {
            if (CALLS.containsKey(called) && above <= MOST_CALLS_DEEP) {
                deepest = Math.max(deepest, depth(called, above + 1));
            }
        }
        return deepest + 1;
    }
}
