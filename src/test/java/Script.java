import java.lang.reflect.InvocationTargetException;
import java.lang.reflect.Method;
import java.lang.reflect.Modifier;
import java.util.ArrayList;
import java.util.Arrays;
import java.util.HashMap;
import java.util.List;
import java.util.Map;
import java.util.Set;

/**
 * Runs calls that are written as in the document's examples, on a new object, and counts wrong
 * answers. Statements are separated by blanks around a bar or by line ends:
 *
 * <pre>
 *   create(0, 0, 1, 1) = 1            the call answers 1
 *   ring(3) throws IndexOutOfBounds   the call throws this exception, and nothing changes
 *   solve(0, 1, 2) = 0 unchanged      the call answers 0, and nothing changes
 *   typed [1,2]                       the bytes are appended to the text
 *   slot 0 is [1,2]                   the slot, when written, gives this text
 *   fault 0 of [1,2] is -1            this text, in another new object, has this fault in this ring
 *   log 0 is 1,1,0,-3,0 2,1,-1,-1,0   the log of the slot, with the five properties of each step
 *   times 200 swap(0, false, 0, 1)    the call is made so often, and must not throw
 * </pre>
 *
 * A call of a method that only tells something must leave all as it was, too. What an object is
 * like is asked of its twins (see there), so that none has more than the 512 calls that are promised.
 */
final class Script {
    private static final Map<String, Method> METHODS = methodsOf(RingMatrices.class);
    private static final Map<String, Method> METHODS_OF_MODEL = methodsOf(Model.class);
    private static final Set<String> ONLY_TELL = Set.of("ring", "rows", "columns", "entry", "steps", "step", "entryAfter", "invariant",
        "order", "determinant", "sameSpan", "areEquivalent", "quotient", "gcd", "fault", "written");
    private static final int CALLS = 512;
    private static final long PATIENCE_IN_MILLISECONDS = 60000;
    private static int wrong;
    private static volatile int checked;

    static {
        // A call that does not end is wrong, too.
        Thread watch = new Thread(Script::failWithoutProgress);
        watch.setDaemon(true);
        watch.start();
    }


    /** A call with its arguments, which can be made on any object of the class or of the model. */
    static final class Call {
        private final String name;
        private final Object[] arguments;

        Call(String name, Object... arguments) {
            this.name = name;
            this.arguments = arguments;
        }

        String on(Object target) {
            return answer(target, (target instanceof Model ? METHODS_OF_MODEL : METHODS).get(name), arguments);
        }

        /** Whether it tells something and changes nothing. */
        boolean onlyTells() {
            return ONLY_TELL.contains(name);
        }

        @Override
        public String toString() {
            return name + Arrays.toString(arguments);
        }
    }

    /** Objects that have had the same calls; a new one is made when the last one has had its 512 calls. */
    static final class Twins {
        private final List<Call> past;
        private RingMatrices object;
        private int calls = CALLS;

        Twins(List<Call> past) {
            this.past = past;
        }

        String ask(String name, Object... arguments) {
            if (calls >= CALLS) {
                object = new RingMatrices();
                past.forEach(call -> call.on(object));
                calls = past.size();
            }
            calls++;
            return new Call(name, arguments).on(object);
        }

        int number(String name, Object... arguments) {
            return Integer.parseInt(ask(name, arguments));
        }

        /** What is asked next is asked of a new twin, on which the last questions left no mark. */
        void renew() {
            calls = CALLS;
        }

        String log(int slot) {
            StringBuilder log = new StringBuilder();
            int steps = number("steps", slot);
            for (int step = 0; step < steps; step++) {
                for (int what = 0; what < 5; what++) {
                    log.append(what > 0 ? "," : step > 0 ? " " : "").append(ask("step", slot, step, what));
                }
            }
            return log.toString();
        }

        String writtenText() {
            StringBuilder text = new StringBuilder();
            for (int k = 0; k < 100000; k++) {
                String code = ask("written", k);
                if (code.startsWith("throws")) {
                    return text.toString();
                }
                text.append((char) Integer.parseInt(code));
            }
            throw new IllegalStateException("the written text has no end");
        }

        /** All that can be seen of the object. */
        String state() {
            StringBuilder seen = new StringBuilder("written ").append(writtenText());
            for (int slot = 0; slot < 3; slot++) {
                seen.append(" slot ").append(slot).append(" ring ").append(ask("ring", slot)).append(" log ").append(log(slot));
                int rows = number("rows", slot);
                int columns = number("columns", slot);
                for (int k = 0; k < rows * columns * 2; k++) {
                    seen.append(k % 2 > 0 ? "_" : k % (columns * 2) > 0 ? "," : ";");
                    seen.append(ask("entry", slot, k / 2 / columns, k / 2 % columns, k % 2)).append('/');
                    seen.append(ask("entryAfter", slot, 0, k / 2 / columns, k / 2 % columns, k % 2));
                }
            }
            List<Integer> fitting = new ArrayList<>();
            for (int ring : new int[] {0, 1, 2, 3, 5, 7}) {
                String fault = ask("fault", ring);
                seen.append(" fault ").append(fault);
                if (fault.equals("-1")) {
                    fitting.add(ring);
                }
            }
            seen.append(" length ").append(ask("clearText"));
            for (int ring : fitting) {
                renew();
                seen.append(" parsed ").append(ask("parse", 0, ring)).append(ask("write", 0));
                seen.append(past.size() < 380 ? writtenText() : "");
            }
            return seen.toString();
        }
    }

    private final String title;
    private final RingMatrices object = new RingMatrices();
    /** The calls that the object has had, but for those that threw. */
    private final List<Call> past = new ArrayList<>();
    private int calls;
    private String lastState = "";
    private int lastStateOf = -1;

    private Script(String title) {
        this.title = title;
    }

    /** Runs statements on a new object. */
    static void run(String title, String... statements) {
        Script script = new Script(title);
        for (String lines : statements) {
            for (String statement : lines.split("\n| \\| ")) {
                if (!statement.isBlank()) {
                    script.execute(statement.strip());
                }
            }
        }
    }

    private static Map<String, Method> methodsOf(Class<?> type) {
        Map<String, Method> methods = new HashMap<>();
        for (Method method : type.getDeclaredMethods()) {
            if (Modifier.isPublic(method.getModifiers())) {
                methods.put(method.getName(), method);
            }
        }
        return methods;
    }

    static void check(String what, boolean holds) {
        checked = checked + 1;
        if (!holds) {
            wrong++;
            System.out.println(what);
        }
    }

    /** Ends the test: exit code 1 if an answer was wrong. */
    static void finish() {
        System.out.println(checked + " answers checked, " + wrong + " wrong");
        if (wrong > 0 || checked == 0) {
            System.exit(1);
        }
    }

    private static void failWithoutProgress() {
        try {
            for (int last = -1; last != checked;) {
                last = checked;
                Thread.sleep(PATIENCE_IN_MILLISECONDS);
            }
        } catch (InterruptedException e) {
            return;
        }
        System.out.println("a call did not end");
        Runtime.getRuntime().halt(1);
    }

    /** The answer of a call, a boolean as 1 or 0, or "throws " and the name of the exception. */
    static String answer(Object target, Method method, Object... arguments) {
        try {
            Object result = method.invoke(target, arguments);
            if (result instanceof Boolean) {
                return (Boolean) result ? "1" : "0";
            }
            return result.toString();
        } catch (InvocationTargetException e) {
            return "throws " + (isByMachine(e.getCause()) ? "byItself" : "") + e.getCause().getClass().getSimpleName();
        } catch (IllegalAccessException e) {
            throw new IllegalStateException(e);
        }
    }

    /** The machine's own exceptions, and those of the library, can have the class of one that the document names. */
    private static boolean isByMachine(Throwable thrown) {
        StackTraceElement[] trace = thrown.getStackTrace();
        return trace.length == 0 || trace[0].getClassName().startsWith("java.") || "/ by zero".equals(thrown.getMessage());
    }

    private void execute(String statement) {
        if (statement.startsWith("typed ")) {
            for (char c : statement.substring(6).toCharArray()) {
                make(new Call("type", (int) c));
            }
        } else if (statement.startsWith("slot ")) {
            String[] parts = statement.split(" ", 4);
            expect(statement + " (length)", "" + parts[3].length(), make(new Call("write", Integer.parseInt(parts[1]))));
            expect(statement, parts[3], new Twins(past).writtenText());
        } else if (statement.startsWith("fault ")) {
            fault(statement);
        } else if (statement.startsWith("log ")) {
            String[] parts = statement.split(" ", 4);
            expect(statement, parts.length < 4 ? "" : parts[3], new Twins(past).log(Integer.parseInt(parts[1])));
        } else if (statement.startsWith("times ")) {
            String[] parts = statement.split(" ", 3);
            for (int k = 0; k < Integer.parseInt(parts[1]); k++) {
                String got = make(callOf(parts[2]));
                check(title + ": " + statement + " answered " + got, !got.startsWith("throws"));
            }
        } else {
            call(statement);
        }
    }

    /** Makes a call, and remembers it if it does not throw. */
    private String make(Call call) {
        calls++;
        if (calls > CALLS) {
            throw new IllegalStateException(title + " has more calls than an object may have");
        }
        String got = call.on(object);
        if (!got.startsWith("throws")) {
            past.add(call);
        }
        return got;
    }

    private void fault(String statement) {
        int of = statement.indexOf(" of ") + 4;
        int is = statement.lastIndexOf(" is ");
        RingMatrices other = new RingMatrices();
        for (char c : statement.substring(of, Math.max(is, of)).toCharArray()) {
            other.type(c);
        }
        int ring = Integer.parseInt(statement.split(" ", 3)[1]);
        expect(statement, statement.substring(is + 4), "" + other.fault(ring));
    }

    private static Call callOf(String statement) {
        String inside = statement.substring(statement.indexOf('(') + 1, statement.indexOf(')'));
        List<Object> arguments = new ArrayList<>();
        for (String argument : inside.isBlank() ? new String[0] : inside.split(",")) {
            String word = argument.strip();
            boolean logical = word.equals("true") || word.equals("false");
            arguments.add(logical ? (Object) Boolean.valueOf(word) : (Object) Integer.valueOf(word));
        }
        return new Call(statement.substring(0, statement.indexOf('(')), arguments.toArray());
    }

    private void call(String statement) {
        String due = statement.substring(statement.indexOf(')') + 1).strip();
        Call call = callOf(statement);
        boolean unchanged = due.startsWith("throws") || due.endsWith(" unchanged") || call.onlyTells();
        String before = unchanged ? stateNow() : "";
        String got = make(call);
        expect(statement, due.startsWith("throws") ? due + "Exception" : due.substring(1).replace(" unchanged", "").strip(), got);
        if (unchanged) {
            List<Call> all = new ArrayList<>(past);
            if (got.startsWith("throws")) {
                all.add(call);
            }
            expect(statement + " (what is left)", before, new Twins(all).state());
        }
    }

    private String stateNow() {
        if (lastStateOf != past.size()) {
            lastState = new Twins(past).state();
            lastStateOf = past.size();
        }
        return lastState;
    }

    private void expect(String statement, String due, String got) {
        check(title + ": " + statement + " answered " + got, due.equals(got));
    }
}
