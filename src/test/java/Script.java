import java.lang.reflect.InvocationTargetException;
import java.lang.reflect.Method;
import java.util.ArrayList;
import java.util.HashMap;
import java.util.List;
import java.util.Map;

/**
 * Runs calls that are written as in the document's examples, on a new object, and counts wrong
 * answers. Statements are separated by blanks around a bar or by line ends:
 *
 * <pre>
 *   create(0, 0, 1, 1) = 1            the call answers 1
 *   ring(3) throws IndexOutOfBounds   the call throws this exception, and nothing changes
 *   typed [1,2]                       the bytes are appended to the text
 *   slot 0 is [1,2]                   the slot, when written, gives this text
 *   fault 0 of [1,2] is -1            the text is cleared, typed, and has this fault in this ring
 *   log 0 is 1,1,0,-3,0 2,1,-1,-1,0   the log of the slot, with the five properties of each step
 *   times 200 swap(0, false, 0, 1)    the call is made so often, and its answers are not looked at
 * </pre>
 */
final class Script {
    private static final Map<String, Method> METHODS = new HashMap<>();
    private static int wrong;
    private static int checked;

    static {
        for (Method method : RingMatrices.class.getDeclaredMethods()) {
            if (java.lang.reflect.Modifier.isPublic(method.getModifiers())) {
                METHODS.put(method.getName(), method);
            }
        }
    }

    private final String title;
    private final RingMatrices object = new RingMatrices();

    private Script(String title) {
        this.title = title;
    }

    /** Runs statements on a new object. */
    static void run(String title, String... statements) {
        Script script = new Script(title);
        for (String lines : statements) {
            for (String statement : lines.split("\n| \\| ")) {
                if (!statement.isBlank()) {
                    script.execute(statement.strip());
                }
            }
        }
    }

    static void check(String what, boolean holds) {
        checked++;
        if (!holds) {
            wrong++;
            System.out.println(what);
        }
    }

    /** Ends the test: exit code 1 if an answer was wrong. */
    static void finish() {
        System.out.println(checked + " answers checked, " + wrong + " wrong");
        if (wrong > 0 || checked == 0) {
            System.exit(1);
        }
    }

    /** The answer of a call, a boolean as 1 or 0, or "throws " and the name of the exception. */
    static String answer(Object target, Method method, Object... arguments) {
        try {
            Object result = method.invoke(target, arguments);
            if (result instanceof Boolean) {
                return (Boolean) result ? "1" : "0";
            }
            return result.toString();
        } catch (InvocationTargetException e) {
            // The machine's own exception has the class of one that the document names.
            boolean byMachine = "/ by zero".equals(e.getCause().getMessage());
            return "throws " + (byMachine ? "DivisionByZero" : e.getCause().getClass().getSimpleName());
        } catch (IllegalAccessException e) {
            throw new IllegalStateException(e);
        }
    }

    /** All that can be seen of an object without changing it. */
    static String state(RingMatrices x) {
        StringBuilder seen = new StringBuilder();
        for (int slot = 0; slot < 3; slot++) {
            seen.append("slot ").append(slot).append(" ring ").append(x.ring(slot)).append(" steps ").append(x.steps(slot));
            for (int row = 0; row < x.rows(slot); row++) {
                for (int column = 0; column < x.columns(slot); column++) {
                    seen.append(row == 0 && column == 0 ? " [" : column == 0 ? ";" : ",");
                    for (int part = 0; part < 2; part++) {
                        seen.append(x.entry(slot, row, column, part)).append(part == 0 ? "_" : "/");
                        seen.append(x.entryAfter(slot, 0, row, column, part)).append(' ');
                    }
                }
            }
            for (int step = 0; step < x.steps(slot); step++) {
                for (int what = 0; what < 5; what++) {
                    seen.append(what == 0 ? " step " : ",").append(x.step(slot, step, what));
                }
            }
        }
        for (int ring : new int[] {0, 1, 2, 3, 5, 7}) {
            seen.append(" fault ").append(x.fault(ring));
        }
        return seen.append(" written ").append(writtenText(x)).toString();
    }

    static String writtenText(RingMatrices x) {
        StringBuilder text = new StringBuilder();
        try {
            for (int k = 0; k < 100000; k++) {
                text.append((char) x.written(k));
            }
        } catch (IndexOutOfBoundsException e) {
            return text.toString();
        }
        throw new IllegalStateException("the written text has no end");
    }

    private void execute(String statement) {
        if (statement.startsWith("typed ")) {
            enter(statement.substring(6));
        } else if (statement.startsWith("slot ")) {
            String[] parts = statement.split(" ", 4);
            int length = object.write(Integer.parseInt(parts[1]));
            expect(statement, parts[3], writtenText(object));
            expect(statement + " (length)", "" + parts[3].length(), "" + length);
        } else if (statement.startsWith("fault ")) {
            int ring = Integer.parseInt(statement.split(" ", 3)[1]);
            int of = statement.indexOf(" of ");
            int is = statement.lastIndexOf(" is ");
            object.clearText();
            enter(statement.substring(of + 4, Math.max(is, of + 4)));
            expect(statement, statement.substring(is + 4), "" + object.fault(ring));
        } else if (statement.startsWith("log ")) {
            String[] parts = statement.split(" ", 4);
            expect(statement, parts.length < 4 ? "" : parts[3], log(Integer.parseInt(parts[1])));
        } else if (statement.startsWith("times ")) {
            String[] parts = statement.split(" ", 3);
            for (int k = 0; k < Integer.parseInt(parts[1]); k++) {
                String got = answer(object, method(parts[2]), arguments(parts[2]));
                check(title + ": " + statement + " answered " + got, !got.startsWith("throws"));
            }
        } else {
            call(statement);
        }
    }

    private String log(int slot) {
        StringBuilder log = new StringBuilder();
        for (int step = 0; step < object.steps(slot); step++) {
            for (int what = 0; what < 5; what++) {
                log.append(what > 0 ? "," : step > 0 ? " " : "").append(object.step(slot, step, what));
            }
        }
        return log.toString();
    }

    private void enter(String text) {
        for (char c : text.toCharArray()) {
            object.type(c);
        }
    }

    private static Method method(String statement) {
        return METHODS.get(statement.substring(0, statement.indexOf('(')));
    }

    private static Object[] arguments(String statement) {
        String inside = statement.substring(statement.indexOf('(') + 1, statement.indexOf(')'));
        List<Object> arguments = new ArrayList<>();
        for (String argument : inside.isBlank() ? new String[0] : inside.split(",")) {
            String word = argument.strip();
            boolean logical = word.equals("true") || word.equals("false");
            arguments.add(logical ? (Object) Boolean.valueOf(word) : (Object) Integer.valueOf(word));
        }
        return arguments.toArray();
    }

    private void call(String statement) {
        String due = statement.substring(statement.indexOf(')') + 1).strip();
        String before = due.startsWith("throws") ? state(object) : "";
        String got = answer(object, method(statement), arguments(statement));
        if (due.startsWith("throws")) {
            expect(statement, due + "Exception", got);
            expect(statement + " (what is left)", before, state(object));
        } else {
            expect(statement, due.substring(1).strip(), got);
        }
    }

    private void expect(String statement, String due, String got) {
        check(title + ": " + statement + " answered " + got, due.equals(got));
    }
}
