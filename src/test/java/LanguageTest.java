import java.io.IOException;
import java.nio.file.Files;
import java.nio.file.Path;
import java.util.HashMap;
import java.util.Map;
import java.util.regex.Matcher;
import java.util.regex.Pattern;

/** What ../shared/LANGUAGE.md rules out and a look at the source can find; run from the project's folder. */
public final class LanguageTest {
    /** A rule's number, and what it rules out. */
    private static final String[][] RULED_OUT = {
        {"1", "^\\s*package\\b"}, {"1", "\\bprotected\\b"}, {"2", "::"}, {"2", "^(?!\\s*(?:case|default)\\b).*->"},
        {"4", "^import (?!java\\.util\\.(?:Arrays|ArrayList|List|Iterator|NoSuchElementException);)"}, {"4", "\\w+Exact\\b"},
        {"4", "\\bSystem\\.(?!arraycopy\\b)"}, {"4", "\\b(?:StrictMath|BigInteger|Object|Thread|Random|Scanner|Runtime|Class)\\b"},
        {"3", "\\bMath\\.(?:random|sqrt|cbrt|pow|floor|ceil|round|rint|log\\w*|exp|sin|cos|tan|hypot)\\b"},
        {"5", "\\bstatic\\s*\\{"}, {"5", "\\bstatic (?!final\\b|abstract\\b|class\\b)[\\w<>\\[\\]]+ \\w+\\s*[=;]"},
        {"6", "\\b(?:finally|synchronized|assert|volatile|transient|native)\\b"}, {"6", "\\bgetMessage\\b|\\bprintStackTrace\\b"},
        {"6", "\\bcatch \\((?:final )?(?:Array\\w*|NullPointer\\w*|ClassCast\\w*|NegativeArray\\w*|Throwable|Exception|Error)\\b"},
        {"6", "\\bhashCode\\s*\\("},
    };

    private static final Pattern METHOD = Pattern.compile("^ +(?!return\\b|throw\\b|else\\b|new\\b)(?:[\\w\\[\\]]+ )+(\\w+)\\(([^()]*)\\)[^;{}()]*\\{",
        Pattern.MULTILINE);
    private static final Pattern CLASS = Pattern.compile("^( *)(?:\\w+ )*class (\\w+)[^{]*\\{", Pattern.MULTILINE);
    /** Behind the blanks of a class and four more: a local variable has more of them. */
    private static final String FIELD = "    (?:private )?(?:final )?[\\w\\[\\]]+ \\w+(?: =.*)?;";
    private static final int DEEPEST = 8;

    public static void main(String[] arguments) throws IOException {
        String source = Files.readString(Path.of("src/main/java/RingMatrices.java"));
        String code = source.replaceAll("(?s)/\\*.*?\\*/", "").replaceAll("//[^\n]*", "").replaceAll("\"[^\"\n]*\"", "\"\"");
        for (String[] rule : RULED_OUT) {
            Matcher matcher = Pattern.compile(rule[1], Pattern.MULTILINE).matcher(code);
            boolean found = matcher.find();
            Script.check("rule " + rule[0] + " rules out: " + (found ? matcher.group() : ""), !found);
        }
        Matcher thrown = Pattern.compile("\\bthrow\\b(.*)").matcher(code);
        while (thrown.find()) {
            Script.check("rule 6, thrown:" + thrown.group(1), thrown.group(1).matches(" new (IllegalState|IllegalArgument|IndexOutOfBounds"
                + "|Arithmetic|UnsupportedOperation|NoSuchElement|Runtime)Exception\\((\"\")?\\);.*"));
        }
        checkMeasures(code);
        Script.finish();
    }

    /** Rules 8 and 11. Methods of one name are taken for one, which can only make chains of calls longer. */
    private static void checkMeasures(String code) {
        Map<String, String> bodies = new HashMap<>();
        for (Matcher method = METHOD.matcher(code); method.find();) {
            String name = method.group(1);
            String body = blockFrom(code, method.end() - 1);
            Script.check("rule 11, lines of " + name, body.split("\n").length <= 60);
            Script.check("rule 11, parameters of " + name, method.group(2).split(",").length <= 7);
            bodies.merge(name, body, String::concat);
        }
        Script.check("the public methods are not found in the source", bodies.containsKey("create") && bodies.containsKey("written"));
        Map<String, Integer> depths = new HashMap<>();
        for (String name : bodies.keySet()) {
            int depth = depthOf(name, bodies, depths, 1);
            Script.check("rule 8 or 11, calls below " + name + " go " + depth + " deep", depth <= DEEPEST);
        }
        int classes = 0;
        for (Matcher type = CLASS.matcher(code); type.find(); classes++) {
            Matcher field = Pattern.compile("^" + type.group(1) + FIELD, Pattern.MULTILINE).matcher(blockFrom(code, type.end() - 1));
            long fields = field.results().count();
            Script.check("rule 11, fields of " + type.group(2) + ": " + fields, fields <= 20);
        }
        Script.check("rule 11, classes: " + classes, classes >= 1 && classes <= 12);
    }

    /** How many methods stand open at once in the longest chain of calls from this one on. */
    private static int depthOf(String name, Map<String, String> bodies, Map<String, Integer> known, int level) {
        if (level > DEEPEST * 2) {
            return level;
        }
        if (!known.containsKey(name)) {
            int below = 0;
            for (String other : bodies.keySet()) {
                if (Pattern.compile("(?<!new )\\b" + other + "\\(").matcher(bodies.get(name)).find()) {
                    below = Math.max(below, depthOf(other, bodies, known, level + 1));
                }
            }
            known.put(name, below + 1);
        }
        return known.get(name);
    }

    /** The text from a brace to the one that closes it. */
    private static String blockFrom(String code, int start) {
        int open = 0;
        for (int k = start; k < code.length(); k++) {
            open += code.charAt(k) == '{' ? 1 : code.charAt(k) == '}' ? -1 : 0;
            if (open == 0) {
                return code.substring(start, k + 1);
            }
        }
        return code.substring(start);
    }
}
