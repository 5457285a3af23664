import java.io.IOException;
import java.nio.file.Files;
import java.nio.file.Path;
import java.util.regex.Matcher;
import java.util.regex.Pattern;

/** The examples of the document, as they stand here, and as they stand there; run from the project's folder. */
public final class ExamplesTest {
    private static final Path DOCUMENT = Path.of("../shared/DOC.md");
    private static final Pattern EXAMPLE = Pattern.compile("^(\\d+)\\. [^:\n]*: (\\w+\\(.*\\) = .*)\\.$", Pattern.MULTILINE);

    public static void main(String[] arguments) throws IOException {
        Script.run("example 1", "type(91) = 1 | type(50) = 2 | type(44) = 3 | type(52) = 4 | type(59) = 5 | type(54) = 6",
            "type(44) = 7 | type(56) = 8 | type(93) = 9 | parse(0, 0) = 2 | hermite(0) = 2 | entry(0, 0, 0, 0) = 2",
            "entry(0, 0, 1, 0) = 0 | entry(0, 1, 1, 0) = 4 | steps(0) = 3");
        Script.run("example 2", "create(0, 0, 1, 1) = 1 | set(0, 0, 0, -7, 0) = 0 | quotient(0, -7, 2, 0) = -4",
            "gcd(1, 3, 1, 1, -2, 0) = 1 | gcd(1, 3, 1, 1, -2, 1) = 0 | quotient(1, 7, 2, 0) = 4");
        Script.run("example 3", "type(91) = 1 | type(120) = 2 | type(44) = 3 | type(49) = 4 | type(93) = 5 | parse(0, 2) = 1",
            "smith(0) = 1 | steps(0) = 2 | step(0, 0, 0) = 3 | entry(0, 0, 0, 0) = 1 | kernel(0, 1) = 1",
            "rows(1) = 2 | columns(1) = 1");
        Script.run("example 4", "type(91) = 1 | type(49) = 2 | type(44) = 3 | type(50) = 4 | type(59) = 5 | type(51) = 6",
            "type(93) = 7 | fault(0) = 6 | parse(0, 0) throws IllegalState");
        Script.run("example 5", "create(0, 0, 2, 1) = 1 | set(0, 0, 0, 1000000000, 0) = 0",
            "add(0, false, 1, 0, 2, 0) throws Arithmetic | hermite(1) throws IllegalState",
            "create(0, 4, 1, 1) throws IllegalArgument");
        if (Files.isReadable(DOCUMENT)) {
            runThoseOf(Files.readString(DOCUMENT));
        }
        Script.finish();
    }

    private static void runThoseOf(String document) {
        int examples = 0;
        for (Matcher example = EXAMPLE.matcher(document); example.find(); examples++) {
            String statements = example.group(2).replaceAll("= throws (\\w+)Exception", "throws $1").replace("; ", " | ");
            Script.run("the document's example " + example.group(1), statements);
        }
        Script.check("the document has " + examples + " examples, not 5", examples == 5);
    }
}
