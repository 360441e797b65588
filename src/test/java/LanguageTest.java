import java.io.IOException;
import java.nio.file.Files;
import java.nio.file.Path;
import java.util.List;
import java.util.regex.Matcher;
import java.util.regex.Pattern;

/** The rules of ../shared/LANGUAGE.md that a look at the text of the program can find broken. */
public final class LanguageTest {
    private static final Path PROGRAM = Path.of("src/main/java/ThreeStrandMaps.java");
    private static final int MOST_LINES = 60;
    private static final int MOST_PARAMETERS = 7;

    // What the rules leave out, each with what the text would show.
    private static final List<String> BARRED = List.of(
        "\\bthrows?\\b", "\\btry\\b", "\\bcatch\\b", "\\bfinally\\b", "\\bsynchronized\\b", "\\bassert\\b", "->", "::",
        "\\bstatic\\s*\\{", "Exact\\s*\\(", "\\bpackage\\b", "\\bvolatile\\b", "\\bSystem\\.(?!arraycopy)",
        "\\b(Object|Random|Thread|Scanner|Map|Set|Stream|Optional|Runtime)\\b", "@\\w+", "\\bvar\\b", "\\byield\\b",
        "\\b(equals|hashCode|toString)\\s*\\(", "while\\s*\\(true\\)", "for\\s*\\(;;", "\\b(float|double)\\b");

    private static final Pattern METHOD = Pattern.compile(
        "(?m)^( +)(?:(?:public|private|static|final) )*[\\w\\[\\]]+ (\\w+)\\(([^)]*)\\) \\{\n((?:.*\n)*?)\\1\\}\n");

    public static void main(String[] args) throws IOException {
        Due due = new Due();
        String text = Files.readString(PROGRAM);
        due.is("signs beyond 127", text.chars().filter(c -> c > 127).count(), 0);
        String code = text.replaceAll("(?s)/\\*.*?\\*/", "").replaceAll("//.*", "");
        for (String barred : BARRED) {
            due.is(barred, Pattern.compile(barred).matcher(code).results().count(), 0);
        }
        List<String> imports = Pattern.compile("import ([^;]+);").matcher(code).results().map(m -> m.group(1)).toList();
        due.is("imports " + imports, imports.equals(List.of("java.util.Arrays")) ? 1 : 0, 1);
        Matcher method = METHOD.matcher(code);
        int methods = 0;
        while (method.find()) {
            methods++;
            long lines = method.group(4).lines().count();
            due.is(method.group(2) + " has " + lines + " lines", lines <= MOST_LINES ? 1 : 0, 1);
            int parameters = method.group(3).split(",").length;
            due.is(method.group(2) + " has " + parameters, parameters <= MOST_PARAMETERS ? 1 : 0, 1);
        }
        due.is("more than 100 methods seen, " + methods, methods > 100 ? 1 : 0, 1);
        due.end();
    }
}
