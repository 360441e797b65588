import java.io.IOException;
import java.nio.file.Files;
import java.nio.file.Path;
import java.util.ArrayList;
import java.util.LinkedHashMap;
import java.util.List;
import java.util.Map;

/**
 * What the tests of the document's sentences share: each check stands under a heading of the document and names the
 * sentence that it holds, in the document's own words. In the end the document itself tells which of its sentences no
 * check has named.
 */
abstract class Sentences extends Workbench {
    /** No numbers of places, of points of a map with four points, or of anything else there are four of. */
    static final int[] NOT_OF_FOUR = {-1, 4, LOW, HIGH};

    private static final Path DOCUMENT = Path.of("../shared/DOC.md");
    private static final Map<String, List<String>> NAMED = new LinkedHashMap<>();

    private static String heading = "";
    private static String sentence = "";
    private static int askedBefore = 0;

    static void under(String newHeading) {
        heading = newHeading;
        NAMED.putIfAbsent(heading, new ArrayList<>());
    }

    /** Names the sentence that the next calls hold, which go to a new object. */
    static void says(String newSentence) {
        endSentence();
        sentence = newSentence;
        NAMED.get(heading).add(sentence);
        DUE.about(heading + ", \"" + sentence + "\"");
        maps = new ThreeStrandMaps();
    }

    private static void endSentence() {
        if (!sentence.isEmpty() && DUE.asked() == askedBefore) {
            DUE.is("the number of answers asked for", 0, 1);
        }
        askedBefore = DUE.asked();
    }

    static void end() throws IOException {
        endSentence();
        DUE.about("");
        compareWithDocument();
        DUE.end();
    }

    // ---- the document

    private static void compareWithDocument() throws IOException {
        Map<String, List<String>> document = readDocument();
        for (Map.Entry<String, List<String>> named : NAMED.entrySet()) {
            String text = String.join("\n", document.getOrDefault(named.getKey(), List.of()));
            for (String name : named.getValue()) {
                DUE.is("the document says under \"" + named.getKey() + "\": " + name, text.contains(name) ? 1 : 0, 1);
            }
        }
        for (Map.Entry<String, List<String>> section : document.entrySet()) {
            List<String> names = NAMED.get(section.getKey());
            if (names == null) {
                DUE.is("is checked: " + section.getKey(), section.getKey().startsWith("Promise") ? 0 : 1, 1);
                continue;
            }
            for (String clause : section.getValue()) {
                // What ends in a colon only leads to the list that follows.
                boolean isNamed = clause.endsWith(":") || names.stream().anyMatch(clause::contains);
                DUE.is("is checked under \"" + section.getKey() + "\": " + clause, isNamed ? 1 : 0, 1);
            }
        }
    }

    /** The clauses under each heading: parts of the document's paragraphs that a semicolon or the end of a sentence ends. */
    private static Map<String, List<String>> readDocument() throws IOException {
        Map<String, List<String>> document = new LinkedHashMap<>();
        StringBuilder paragraph = new StringBuilder();
        String section = "";
        for (String line : Files.readAllLines(DOCUMENT)) {
            boolean isHeading = line.startsWith("#");
            if (isHeading || line.isBlank() || line.startsWith("- ")) {
                addClauses(document, section, paragraph);
            }
            if (isHeading) {
                section = line.replaceFirst("#+ ", "");
            } else if (!line.startsWith("`") && !line.startsWith("----")) {
                paragraph.append(' ').append(line.strip());
            }
        }
        addClauses(document, section, paragraph);
        return document;
    }

    private static void addClauses(Map<String, List<String>> document, String section, StringBuilder paragraph) {
        String text = paragraph.toString().strip().replaceFirst("^- ", "").replace("`", "");
        paragraph.setLength(0);
        if (!text.isEmpty()) {
            document.computeIfAbsent(section, key -> new ArrayList<>()).addAll(List.of(text.split("; |(?<=\\.) ")));
        }
    }
}
