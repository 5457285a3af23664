import java.lang.reflect.Method;
import java.lang.reflect.Modifier;
import java.util.ArrayList;
import java.util.Collections;
import java.util.Comparator;
import java.util.HashMap;
import java.util.List;
import java.util.Map;
import java.util.Random;

/**
 * Runs of calls, drawn with fixed seeds, of which each answer is compared with the model's. A run goes on for
 * a while, and then asks what all is like, until the object has had the 512 calls that are promised.
 */
public final class ModelTest {
    private static final int[] RINGS = {0, 1, 2, 3, 5, 7};
    private static final int CALLS = 512;
    private static final int FEWEST = 60;

    private final Random random;
    private final RingMatrices object = new RingMatrices();
    private final Model model = new Model();
    private final List<String> run = new ArrayList<>();
    private final Map<String, Integer> counts;
    /** The ring that this run prefers, so that slots fit together. */
    private final int favourite;
    private boolean agreed = true;
    private int calls;

    private ModelTest(long seed, Map<String, Integer> counts) {
        random = new Random(seed);
        favourite = RINGS[random.nextInt(RINGS.length)];
        this.counts = counts;
    }

    public static void main(String[] arguments) {
        int runs = arguments.length > 0 ? Integer.parseInt(arguments[0]) : 600;
        long first = arguments.length > 1 ? Long.parseLong(arguments[1]) : 1;
        List<Method> methods = new ArrayList<>();
        for (Method method : RingMatrices.class.getDeclaredMethods()) {
            if (Modifier.isPublic(method.getModifiers())) {
                methods.add(method);
            }
        }
        methods.sort(Comparator.comparing(Method::getName));
        Map<String, Integer> counts = new HashMap<>();
        for (long seed = first; seed < first + runs; seed++) {
            new ModelTest(seed, counts).play(methods, seed);
        }
        if (arguments.length > 0) {
            counts.entrySet().stream().sorted(Map.Entry.comparingByKey()).forEach(System.out::println);
        }
        Script.finish();
    }

    private void play(List<Method> methods, long seed) {
        int most = FEWEST + random.nextInt(CALLS - FEWEST);
        for (int slot = 0; slot < 3; slot++) {
            if (random.nextInt(6) > 0) {
                fill(slot);
            }
        }
        while (calls < most && agreed) {
            if (random.nextInt(30) == 0) {
                int ring = ring();
                enter(ring, 1 + random.nextInt(4), 1 + random.nextInt(4), random.nextInt(3));
            }
            if (random.nextInt(50) == 0) {
                enterSystem();
            }
            Method method = methods.get(random.nextInt(methods.size()));
            if (method.getName().equals("create") && random.nextInt(4) > 0) {
                method = method(methods, "set");
            }
            call(method, draw(method));
        }
        probe();
        if (!agreed) {
            System.out.println("seed " + seed + ": " + String.join("; ", run));
        }
    }

    private static Method method(List<Method> methods, String name) {
        return methods.stream().filter(m -> m.getName().equals(name)).findFirst().orElseThrow();
    }

    private void call(Method method, Object... arguments) {
        Method twin;
        try {
            twin = Model.class.getMethod(method.getName(), method.getParameterTypes());
        } catch (NoSuchMethodException e) {
            throw new IllegalStateException(e);
        }
        if (calls >= CALLS) {
            return;
        }
        calls++;
        String due = Script.answer(model, twin, arguments);
        String got = Script.answer(object, method, arguments);
        String written = method.getName() + java.util.Arrays.toString(arguments);
        run.add(written + " = " + due);
        counts.merge(method.getName() + (due.startsWith("throws") ? " " + due : ""), 1, Integer::sum);
        agreed &= due.equals(got);
        Script.check(written + " answered " + got + ", due is " + due, agreed);
    }

    /** Asks for all that the model has, in a drawn order, until the object has had its calls. */
    private void probe() {
        List<Runnable> questions = new ArrayList<>();
        for (int slot = 0; slot < 3; slot++) {
            int of = slot;
            questions.add(() -> invoke("ring", of));
            questions.add(() -> invoke("rows", of));
            questions.add(() -> invoke("columns", of));
            questions.add(() -> invoke("steps", of));
            int columns = model.columns(slot);
            for (int k = 0; k < model.rows(slot) * columns * 2; k++) {
                int at = k;
                questions.add(() -> invoke("entry", of, at / 2 / columns, at / 2 % columns, at % 2));
                questions.add(() -> invoke("entryAfter", of, 0, at / 2 / columns, at / 2 % columns, at % 2));
            }
            for (int k = 0; k < model.steps(slot) * 5; k++) {
                int at = k;
                questions.add(() -> invoke("step", of, at / 5, at % 5));
            }
        }
        for (int ring : RINGS) {
            questions.add(() -> invoke("fault", ring));
        }
        for (int k = 0; k < 40; k++) {
            int at = k;
            questions.add(() -> invoke("written", at));
        }
        Collections.shuffle(questions, random);
        questions.forEach(Runnable::run);
        invoke("clearText");
    }

    // ---- what is drawn

    private int ring() {
        return random.nextInt(5) > 0 ? favourite : random.nextInt(20) == 0 ? random.nextInt(12) - 2 : RINGS[random.nextInt(6)];
    }

    private int slot() {
        return random.nextInt(60) == 0 ? random.nextInt(6) - 2 : random.nextInt(3);
    }

    private int small(int bound) {
        return random.nextInt(40) == 0 ? random.nextInt(bound + 4) - 2 : random.nextInt(Math.max(bound, 1));
    }

    private int first(int ring) {
        if (ring > 1) {
            int bound = (int) Math.pow(ring, 1 + random.nextInt(random.nextInt(4) == 0 ? 8 : 3));
            return random.nextInt(30) == 0 ? (int) Math.pow(ring, 8) - 1 + random.nextInt(2) : random.nextInt(bound);
        }
        int limit = ring == 1 ? 30000 : 1000000000;
        switch (random.nextInt(12)) {
            case 0:
                return (random.nextBoolean() ? 1 : -1) * (limit - random.nextInt(3) + 1);
            case 1:
                return random.nextInt(2 * limit + 1) - limit;
            case 2:
                return random.nextInt(2001) - 1000;
            default:
                return random.nextInt(19) - 9;
        }
    }

    private int second(int ring) {
        if (ring == 1) {
            return random.nextInt(3) == 0 ? 0 : first(1);
        }
        return random.nextInt(30) == 0 ? random.nextInt(3) - 1 : 0;
    }

    private Object[] draw(Method method) {
        int slot = slot();
        boolean known = slot >= 0 && slot < 3;
        int ring = known && model.ring(slot) >= 0 ? model.ring(slot) : favourite;
        int rows = known ? model.rows(slot) : 1;
        int columns = known ? model.columns(slot) : 1;
        boolean across = random.nextBoolean();
        int lines = across ? columns : rows;
        int part = small(2);
        switch (method.getName()) {
            case "create":
                return new Object[] {slot, ring(), small(4) + 1, small(4) + 1};
            case "set":
                return new Object[] {slot, small(rows), small(columns), first(ring), second(ring)};
            case "multiply":
            case "solve":
                return new Object[] {slot, slot(), slot()};
            case "copy":
            case "kernel":
            case "sameSpan":
            case "areEquivalent":
                return new Object[] {slot, slot()};
            case "transfer":
                return new Object[] {slot, slot(), across};
            case "entry":
                return new Object[] {slot, small(rows), small(columns), part};
            case "entryAfter":
                return new Object[] {slot, small(known ? model.steps(slot) + 1 : 1), small(rows), small(columns), part};
            case "swap":
                return new Object[] {slot, across, small(lines), small(lines)};
            case "add":
                return new Object[] {slot, across, small(lines), small(lines), first(ring), second(ring)};
            case "scale":
                return new Object[] {slot, across, small(lines), unitPart(ring), ring == 1 ? unitPart(1) : second(ring)};
            case "step":
                return new Object[] {slot, small(known ? model.steps(slot) : 1), small(5)};
            case "invariant":
                return new Object[] {slot, small(Math.min(rows, columns)), part};
            case "determinant":
                return new Object[] {slot, part};
            case "quotient":
                int of = ring();
                return new Object[] {of, first(of), first(of), part};
            case "gcd":
                int in = ring();
                return new Object[] {in, first(in), second(in), first(in), second(in), part};
            case "type":
                return new Object[] {random.nextInt(10) == 0 ? random.nextInt(300) - 20 : "[],;0123456789-+ix^".charAt(random.nextInt(19))};
            case "clearText":
                return new Object[0];
            case "fault":
                return new Object[] {ring()};
            case "parse":
                return new Object[] {slot, ring()};
            case "written":
                return new Object[] {random.nextInt(30) - 2};
            default:
                return new Object[] {slot};
        }
    }

    private int unitPart(int ring) {
        return ring > 1 ? random.nextInt(ring) : random.nextInt(3) - 1;
    }

    /** Makes a matrix and sets most of its entries, which takes fewer calls than to type it. */
    private void fill(int slot) {
        int ring = ring();
        int rows = 1 + random.nextInt(4);
        int columns = 1 + random.nextInt(4);
        invoke("create", slot, ring, rows, columns);
        for (int k = 0; k < rows * columns && model.ring(slot) >= 0; k++) {
            if (random.nextInt(4) > 0) {
                invoke("set", slot, k / columns, k % columns, first(ring), second(ring));
            }
        }
    }

    /** A system that has a solution, and what belongs to it. */
    private void enterSystem() {
        int ring = ring();
        int rows = 1 + random.nextInt(4);
        int columns = 1 + random.nextInt(4);
        enter(ring, rows, columns, 0);
        enter(ring, columns, 1, 1);
        invoke("multiply", 0, 1, 2);
        if (random.nextInt(3) == 0) {
            enter(ring, rows, 1, 2);
        }
        invoke("solve", 0, 2, 1);
        invoke("write", 1);
        invoke("kernel", 0, 1);
        invoke("copy", 0, 1);
        invoke("smith", 0);
        invoke("transfer", 0, 2, false);
        invoke("transfer", 0, 1, true);
        invoke("areEquivalent", 0, 1);
    }

    /** Types a text that is a matrix, or nearly, and parses it. */
    private void enter(int ring, int rows, int columns, int slot) {
        StringBuilder text = new StringBuilder("[");
        for (int k = 0; k < rows * columns; k++) {
            text.append(k == 0 ? "" : k % columns == 0 ? ";" : ",").append(element(ring));
        }
        text.append("]");
        if (random.nextInt(3) == 0) {
            int at = random.nextInt(text.length());
            String sign = String.valueOf("[],;0123456789-+ix^ ".charAt(random.nextInt(20)));
            text.replace(at, at + random.nextInt(2), random.nextInt(3) == 0 ? "" : sign);
        }
        if (random.nextInt(6) == 0) {
            text.setLength(random.nextInt(text.length() + 1));
        }
        invoke("clearText");
        for (int k = 0; k < text.length() && k < 120; k++) {
            invoke("type", (int) text.charAt(k));
        }
        invoke("fault", ring);
        invoke("parse", slot, ring);
    }

    private void invoke(String name, Object... arguments) {
        for (Method method : RingMatrices.class.getMethods()) {
            if (method.getName().equals(name) && agreed) {
                call(method, arguments);
            }
        }
    }

    private String element(int ring) {
        if (ring == 0) {
            return (random.nextInt(4) == 0 ? "-" : "") + number(11, 9);
        }
        if (ring == 1) {
            String sign = random.nextInt(4) == 0 ? "-" : "";
            String then = random.nextBoolean() ? "+" : "-";
            String[] forms = {number(6, 5), number(6, 5) + "i", "i", number(6, 5) + then + "i", number(6, 5) + then + number(6, 5) + "i"};
            return sign + forms[random.nextInt(forms.length)];
        }
        StringBuilder polynomial = new StringBuilder();
        int exponent = random.nextInt(random.nextInt(4) == 0 ? 8 : 3);
        for (int k = 0; k < 4 && exponent >= 0; k++) {
            String digit = random.nextInt(3) == 0 && exponent > 0 ? "" : "" + random.nextInt(random.nextInt(40) == 0 ? 10 : Math.max(ring, 2));
            String power = exponent == 0 ? (random.nextInt(4) == 0 ? "x^0" : "") : exponent == 1 && random.nextBoolean() ? "x" : "x^" + exponent;
            polynomial.append(k == 0 ? "" : "+").append(digit).append(power);
            exponent -= random.nextInt(15) == 0 ? 0 : 1 + random.nextInt(3);
        }
        return polynomial.toString();
    }

    private String number(int most, int usual) {
        int digits = random.nextInt(20) == 0 ? most - random.nextInt(2) : random.nextInt(8) == 0 ? usual : 1 + random.nextInt(2);
        StringBuilder number = new StringBuilder();
        for (int k = 0; k < digits; k++) {
            number.append(digits > 4 && k == 0 ? 0 + random.nextInt(4) : random.nextInt(10));
        }
        return number.toString();
    }
}
