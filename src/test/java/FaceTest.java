import java.io.IOException;
import java.lang.reflect.Constructor;
import java.lang.reflect.Field;
import java.lang.reflect.Member;
import java.lang.reflect.Method;
import java.lang.reflect.Modifier;
import java.nio.file.Files;
import java.nio.file.Path;
import java.util.Arrays;
import java.util.Set;
import java.util.TreeSet;
import java.util.regex.Matcher;
import java.util.regex.Pattern;

/** The class has the document's face, and shows nothing else; run from the project's folder. */
public final class FaceTest {
    private static final Path DOCUMENT = Path.of("../shared/DOC.md");
    private static final Path SOURCE = Path.of("src/main/java/RingMatrices.java");
    private static final Pattern HEAD = Pattern.compile("Ahead of the calls (.*) the interface says: (---- .*)\\.");
    private static final String[] FACE = {
        "int create(int,int,int,int)", "int set(int,int,int,int,int)", "int copy(int,int)", "int multiply(int,int,int)",
        "int ring(int)", "int rows(int)", "int columns(int)", "int entry(int,int,int,int)",
        "int swap(int,boolean,int,int)", "int add(int,boolean,int,int,int,int)", "int scale(int,boolean,int,int,int)",
        "int back(int)", "int transfer(int,int,boolean)", "int hermite(int)", "int smith(int)", "int steps(int)",
        "int step(int,int,int)", "int entryAfter(int,int,int,int,int)", "int solve(int,int,int)", "int kernel(int,int)",
        "int invariant(int,int,int)", "long order(int)", "int determinant(int,int)", "boolean sameSpan(int,int)",
        "boolean areEquivalent(int,int)", "int quotient(int,int,int,int)", "int gcd(int,int,int,int,int,int)",
        "int type(int)", "int clearText()", "int fault(int)", "int parse(int,int)", "int write(int)", "int written(int)",
    };

    public static void main(String[] arguments) throws IOException {
        int modifiers = RingMatrices.class.getModifiers();
        Script.check("the class is not public and final", Modifier.isPublic(modifiers) && Modifier.isFinal(modifiers));
        Script.check("NONE is not -1", RingMatrices.NONE == -1);
        Script.check("there is not one public constructor", RingMatrices.class.getConstructors().length == 1
            && RingMatrices.class.getConstructors()[0].getParameterCount() == 0);
        for (Constructor<?> constructor : RingMatrices.class.getDeclaredConstructors()) {
            checkHidden(constructor, constructor.getParameterCount() == 0);
        }
        Set<String> due = new TreeSet<>(Arrays.asList(FACE));
        Set<String> found = new TreeSet<>();
        Set<String> publicNames = new TreeSet<>();
        for (Method method : RingMatrices.class.getDeclaredMethods()) {
            if (Modifier.isPublic(method.getModifiers())) {
                found.add(signature(method));
                publicNames.add(method.getName());
            }
        }
        Script.check("the public methods are " + found, found.equals(due));
        for (Method method : RingMatrices.class.getDeclaredMethods()) {
            checkHidden(method, publicNames.contains(method.getName()) && Modifier.isPublic(method.getModifiers()));
            Script.check("not public, but named as a public method: " + method,
                Modifier.isPublic(method.getModifiers()) || !publicNames.contains(method.getName()));
        }
        for (Field field : RingMatrices.class.getDeclaredFields()) {
            checkHidden(field, field.getName().equals("NONE"));
        }
        for (Class<?> inside : RingMatrices.class.getDeclaredClasses()) {
            Script.check("a class inside is public or protected: " + inside,
                !Modifier.isPublic(inside.getModifiers()) && !Modifier.isProtected(inside.getModifiers()));
        }
        if (Files.isReadable(DOCUMENT)) {
            String document = Files.readString(DOCUMENT);
            String source = Files.readString(SOURCE);
            compareSignatures(document.substring(document.indexOf("```java\n"), document.indexOf("## Terms")), source);
            compareHeads(document, source);
        }
        Script.finish();
    }

    /** Each line of the document's face is in the source too, up to blanks and line ends, and in the document's order. */
    private static void compareSignatures(String face, String source) {
        String plain = source.replaceAll("\\s+", " ");
        int signatures = 0;
        int last = 0;
        for (String line : face.split("\n")) {
            if (line.startsWith("    public ")) {
                String due = line.strip().replaceAll(";$", "");
                int at = plain.indexOf(due.contains("(") ? due + " {" : due + ";");
                Script.check("not in the source, or not in the document's order: " + line, at > last);
                last = at;
                signatures++;
            }
        }
        Script.check("the document's face has " + signatures + " lines", signatures == FACE.length + 2);
    }

    /** The methods stand below the heads that the document gives them. */
    private static void compareHeads(String document, String source) {
        int heads = 0;
        for (Matcher head = HEAD.matcher(document); head.find(); heads++) {
            int start = source.indexOf("// " + head.group(2) + "\n");
            int end = source.indexOf("// ----", start + 1);
            for (String name : head.group(1).replaceAll("[` ]", "").split(",")) {
                int at = source.indexOf(" " + name + "(", Math.max(start, 0));
                Script.check(name + " does not stand below " + head.group(2), start >= 0 && at > start && at < end);
            }
        }
        Script.check("the document has " + heads + " heads", heads == 5);
    }

    private static void checkHidden(Member member, boolean ofTheFace) {
        Script.check("not of the face, but to be seen: " + member,
            ofTheFace || member.isSynthetic() || Modifier.isPrivate(member.getModifiers()));
    }

    private static String signature(Method method) {
        StringBuilder types = new StringBuilder();
        for (Class<?> type : method.getParameterTypes()) {
            types.append(types.length() > 0 ? "," : "").append(type.getName());
        }
        return method.getReturnType().getName() + " " + method.getName() + "(" + types + ")";
    }
}
