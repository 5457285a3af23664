import java.io.IOException;
import java.nio.file.Files;
import java.nio.file.Path;
import java.util.ArrayList;
import java.util.List;
import java.util.Map;
import java.util.TreeMap;

/** Tests that belong to sentences of the document, and a look into it for sentences without one. */
final class Sentences {
    static final int TERMS = 0;
    private static final Path DOCUMENT = Path.of("../shared/DOC.md");
    private static final Map<Integer, List<String>> TESTED = new TreeMap<>();

    /** What names no boundary case by itself: signs, numbers of a list, names of arguments, heads of methods, and so on. */
    private static final String PLAIN = "[`\\W]*|\\d+[.:]|- .*:|[`](int|long|boolean) .*|[`]\\w+\\(\\)[`]:|```text|[1-4], [1-4]:|i;"
        + "|Hermite and Smith normal forms over .*|systems of linear equations, .*|The kinds of steps are"
        + "|(the|a) (slot|row|column|row or column|number of the ring)|the row or column (that changes|of which a multiple is added)"
        + "|the slot (that is copied|that is replaced|of (the left matrix|the right matrix|the log|the matrix|A))"
        + "|the (first|second) part of (the element|the factor|the dividend|the divisor|a|b);?";

    private Sentences() {
    }

    /** Runs statements on a new object; they test this sentence of the promise with this number, or of the terms. */
    static void test(int promise, String sentence, String... statements) {
        TESTED.computeIfAbsent(promise, k -> new ArrayList<>()).add(sentence);
        Script.run((promise == TERMS ? "Terms" : "promise " + promise) + " '" + sentence + "'", statements);
    }

    /** The statement with each of these words in the place of its #, behind one another. */
    static String each(String statement, Object... words) {
        List<String> statements = new ArrayList<>();
        for (Object word : words) {
            statements.add(statement.replace("#", word.toString()));
        }
        return String.join(" | ", statements);
    }

    /** Checks that each sentence of the document has a test, and that each tested sentence stands there. */
    static void compareWithDocument() throws IOException {
        if (!Files.isReadable(DOCUMENT)) {
            System.out.println("the document is not at hand, so its sentences are not looked up");
            return;
        }
        String document = Files.readString(DOCUMENT).replaceAll("[ \t]+", " ");
        compare(TERMS, between(document, "## Terms", "\nExamples:"));
        for (int promise = 1; promise <= 34; promise++) {
            compare(promise, between(document, "## Promise " + promise + ":", "\n## "));
        }
    }

    private static String between(String document, String from, String to) {
        int start = document.indexOf('\n', document.indexOf(from));
        return document.substring(start, document.indexOf(to, start));
    }

    private static void compare(int promise, String section) {
        List<String> tested = TESTED.getOrDefault(promise, List.of());
        for (String sentence : tested) {
            Script.check("not in the document, " + promise + ": " + sentence, section.replace('\n', ' ').contains(sentence));
        }
        for (String line : section.split("\n")) {
            for (String part : line.strip().split("(?<=[.:;])\\s+")) {
                boolean found = part.matches(PLAIN);
                for (String sentence : tested) {
                    found |= sentence.contains(part) || part.contains(sentence);
                }
                Script.check("no test for a sentence of the document, " + promise + ": " + part, found);
            }
        }
    }
}
