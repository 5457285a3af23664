import java.io.IOException;
import java.nio.file.Files;
import java.nio.file.Path;
import java.util.regex.Matcher;
import java.util.regex.Pattern;

/** What ../shared/LANGUAGE.md rules out and a look at the source can find; run from the project's folder. */
public final class LanguageTest {
    /** A rule's number, and what it rules out. */
    private static final String[][] RULED_OUT = {
        {"1", "^\\s*package\\b"}, {"1", "\\bprotected\\b"}, {"2", "::"}, {"2", "^(?!\\s*(?:case|default)\\b).*->"},
        {"4", "^import (?!java\\.util\\.(?:Arrays|ArrayList|List|Iterator|NoSuchElementException);)"}, {"4", "\\w+Exact\\b"},
        {"4", "\\bSystem\\.(?!arraycopy\\b)"}, {"4", "\\b(?:StrictMath|BigInteger|Object|Thread|Random|Scanner|Runtime|Class)\\b"},
        {"3", "\\bMath\\.(?:random|sqrt|cbrt|pow|floor|ceil|round|rint|log\\w*|exp|sin|cos|tan|hypot)\\b"},
        {"5", "\\bstatic\\s*\\{"}, {"5", "\\bstatic (?!final\\b|abstract\\b|class\\b)[\\w<>\\[\\]]+ \\w+\\s*[=;]"},
        {"6", "\\b(?:finally|synchronized|assert|volatile|transient|native)\\b"}, {"6", "\\bgetMessage\\b|\\bprintStackTrace\\b"},
        {"6", "\\bcatch \\((?:final )?(?:Array\\w*|NullPointer\\w*|ClassCast\\w*|NegativeArray\\w*|Throwable|Exception|Error)\\b"},
        {"6", "\\bhashCode\\s*\\("},
    };

    public static void main(String[] arguments) throws IOException {
        String source = Files.readString(Path.of("src/main/java/RingMatrices.java"));
        String code = source.replaceAll("(?s)/\\*.*?\\*/", "").replaceAll("//[^\n]*", "").replaceAll("\"[^\"\n]*\"", "\"\"");
        for (String[] rule : RULED_OUT) {
            Matcher matcher = Pattern.compile(rule[1], Pattern.MULTILINE).matcher(code);
            boolean found = matcher.find();
            Script.check("rule " + rule[0] + " rules out: " + (found ? matcher.group() : ""), !found);
        }
        Matcher thrown = Pattern.compile("\\bthrow\\b(.*)").matcher(code);
        while (thrown.find()) {
            Script.check("rule 6, thrown:" + thrown.group(1), thrown.group(1).matches(" new (IllegalState|IllegalArgument|IndexOutOfBounds"
                + "|Arithmetic|UnsupportedOperation|NoSuchElement|Runtime)Exception\\((\"\")?\\);.*"));
        }
        Script.finish();
    }
}
