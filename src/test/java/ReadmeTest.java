import java.io.IOException;
import java.net.URI;
import java.nio.file.Files;
import java.nio.file.Path;
import java.util.ArrayList;
import java.util.List;
import java.util.Set;
import java.util.TreeSet;
import java.util.regex.Matcher;
import java.util.regex.Pattern;
import javax.tools.JavaCompiler;
import javax.tools.SimpleJavaFileObject;
import javax.tools.ToolProvider;

/** The examples of README.md compile, and their calls answer what stands behind them; run from the project's folder. */
public final class ReadmeTest {
    private static final Pattern BLOCK = Pattern.compile("```java\n(.*?)```", Pattern.DOTALL);
    private static final Pattern CALL = Pattern.compile("(?:\\w+ \\w+ = )?matrices\\.(\\w+\\([^()]*\\));\\s*// (.*)");
    private static final Pattern ANSWER = Pattern.compile("(-?\\d+|throws \\w+Exception)(?:: .*)?");
    private static final Pattern TYPED = Pattern.compile("for \\(char c : \"(.*)\"\\.toCharArray\\(\\)\\) \\{");
    private static final Pattern PRINTED = Pattern.compile("System\\.out\\.println\\(text\\);\\s*// prints (.*)");
    /** Lines that belong to the loops that type a text, and read one; what these answer is checked as a whole. */
    private static final Set<String> IN_LOOPS = Set.of("}", "matrices.type(c);", "StringBuilder text = new StringBuilder();",
        "for (int k = 0; k < length; k++) {", "text.append((char) matrices.written(k));");

    public static void main(String[] arguments) throws IOException {
        String readme = Files.readString(Path.of("README.md"));
        Set<String> exceptions = new TreeSet<>();
        int blocks = 0;
        for (Matcher block = BLOCK.matcher(readme); block.find(); blocks++) {
            List<String> statements = statementsOf(block.group(1));
            statements.stream().filter(s -> s.contains(" throws ")).forEach(s -> exceptions.add(s.replaceAll(".* throws ", "")));
            Script.run("README.md, example " + (blocks + 1), statements.toArray(new String[0]));
            Script.check("README.md, example " + (blocks + 1) + " does not compile", compiles(block.group(1)));
        }
        Script.check("README.md has examples", blocks > 0);
        Script.check("README.md shows only these exceptions: " + exceptions, exceptions.size() == 4);
        Script.check("README.md does not tell how many calls an object has", readme.contains("at most 512 calls"));
        Script.finish();
    }

    private static List<String> statementsOf(String block) {
        List<String> statements = new ArrayList<>();
        String[] lines = block.split("\n");
        Script.check("the example begins with " + lines[0], lines[0].startsWith("RingMatrices matrices = new RingMatrices();"));
        for (int k = 1; k < lines.length; k++) {
            String line = lines[k].strip();
            Matcher call = CALL.matcher(line);
            Matcher typed = TYPED.matcher(line);
            Matcher printed = PRINTED.matcher(line);
            if (call.matches()) {
                Matcher answer = ANSWER.matcher(call.group(2));
                boolean answered = answer.matches();
                Script.check("no answer behind the call: " + line, answered);
                String due = answered ? answer.group(1) : "";
                statements.add(call.group(1) + (due.startsWith("throws") ? " " + due.replaceAll("Exception$", "") : " = " + due));
            } else if (typed.matches()) {
                statements.add("typed " + typed.group(1));
            } else if (printed.matches()) {
                statements.add("slot 0 is " + printed.group(1));
            } else {
                Script.check("a line without an answer: " + line, IN_LOOPS.contains(line));
            }
        }
        return statements;
    }

    private static boolean compiles(String block) {
        JavaCompiler compiler = ToolProvider.getSystemJavaCompiler();
        String source = "final class Example { static void run() {\n" + block + "\n} }";
        SimpleJavaFileObject file = new SimpleJavaFileObject(URI.create("string:///Example.java"),
                SimpleJavaFileObject.Kind.SOURCE) {
            @Override
            public CharSequence getCharContent(boolean ignoreEncodingErrors) {
                return source;
            }
        };
        List<String> options = List.of("-proc:none", "-Xlint:none", "-implicit:none", "-classpath", System.getProperty("java.class.path"),
            "-d", System.getProperty("java.class.path"));
        return compiler.getTask(null, null, null, options, null, List.of(file)).call();
    }
}
