import java.io.IOException;
import java.nio.file.Files;
import java.nio.file.Path;
import java.util.regex.Matcher;
import java.util.regex.Pattern;

/** What ../shared/LANGUAGE.md rules out and a look at the source can find; run from the project's folder. */
public final class LanguageTest {
    private static final String[] RULED_OUT = {
        "->", "::", "\\w+Exact\\b", "\\bfinally\\b", "\\bsynchronized\\b", "\\bassert\\b", "\\btry\\b", "\\bcatch\\b",
        "\\bprotected\\b", "\\bpackage\\b", "\\bStrictMath\\b", "\\bSystem\\.(?!arraycopy\\b)", "\\bdouble\\b", "\\bfloat\\b",
        "\\b(?:toString|equals|hashCode)\\s*\\(", "\\bwhile\\b", "\\bObject\\b", "\\bnull\\b", "\\bstatic\\s*\\{",
        "\\bMath\\.(?!max\\b|min\\b|abs\\b|floorDiv\\b)", "\\bimport (?!java\\.util\\.Arrays;)",
        "\\bstatic (?!final\\b|abstract\\b|class\\b)[\\w\\[\\]]+ \\w+\\s*[=;]",
    };

    public static void main(String[] arguments) throws IOException {
        String source = Files.readString(Path.of("src/main/java/RingMatrices.java"));
        String code = source.replaceAll("(?s)/\\*.*?\\*/", "").replaceAll("//[^\n]*", "").replaceAll("\"[^\"\n]*\"", "\"\"");
        for (String pattern : RULED_OUT) {
            Matcher matcher = Pattern.compile(pattern).matcher(code);
            boolean found = matcher.find();
            Script.check("ruled out: " + (found ? matcher.group() : ""), !found);
        }
        Matcher thrown = Pattern.compile("\\bthrow\\b(.*)").matcher(code);
        while (thrown.find()) {
            Script.check("thrown:" + thrown.group(1), thrown.group(1).matches(
                " new (IllegalState|IllegalArgument|IndexOutOfBounds|Arithmetic)Exception\\((\"\")?\\);"));
        }
        Script.finish();
    }
}
