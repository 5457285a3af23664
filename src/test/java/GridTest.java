import java.util.ArrayList;
import java.util.List;

/**
 * Each method with all combinations of the values around its arguments' bounds, in several states: each answer
 * is compared with the model's, so that of several exceptions the first one is due, and behind the calls that
 * were refused all must be as it was before them.
 */
public final class GridTest {
    /** So many calls that change nothing are made on one object before it is looked at. */
    private static final int BATCH = 150;
    private static final Object[] SLOTS = {-1, 0, 1, 2, 3};
    private static final Object[] RINGS = {-1, 0, 1, 2, 3, 4, 5, 6, 7, 8};
    private static final Object[] FEWER_RINGS = {-1, 0, 1, 2, 4, 7};
    private static final Object[] SIZES = {0, 1, 2, 4, 5};
    private static final Object[] LINES = {-1, 0, 1, 2, 3};
    private static final Object[] SIDES = {false, true};
    private static final Object[] PARTS = {-1, 0, 1, 2};
    private static final Object[] FIRSTS = {-1000000001, -30000, -1, 0, 2, 256, 30001, 1000000000};
    private static final Object[] SECONDS = {-30001, -1, 0, 30000};
    private static final Object[] COUNTS = {-1, 0, 1, 2, 3, 199, 200, 201};
    private static final Object[] PROPERTIES = {-1, 0, 1, 2, 3, 4, 5};
    private static final Object[] CODES = {Integer.MIN_VALUE, -1, 0, 48, 91, 93, 255, 256, Integer.MAX_VALUE};
    private static final Object[] PLACES = {Integer.MIN_VALUE, -1, 0, 1, 2, 3, 5, 8, 9, 12, 13, 560, 561, Integer.MAX_VALUE};

    /** The values for the arguments of each method. */
    private static final Object[][][] GRIDS = {
        {{"create"}, SLOTS, RINGS, SIZES, SIZES}, {{"set"}, SLOTS, LINES, LINES, FIRSTS, SECONDS}, {{"copy"}, SLOTS, SLOTS},
        {{"multiply"}, SLOTS, SLOTS, SLOTS}, {{"ring"}, SLOTS}, {{"rows"}, SLOTS}, {{"columns"}, SLOTS},
        {{"entry"}, SLOTS, LINES, LINES, PARTS}, {{"swap"}, SLOTS, SIDES, LINES, LINES},
        {{"add"}, SLOTS, SIDES, LINES, LINES, FIRSTS, SECONDS}, {{"scale"}, SLOTS, SIDES, LINES, FIRSTS, SECONDS},
        {{"back"}, SLOTS}, {{"transfer"}, SLOTS, SLOTS, SIDES}, {{"hermite"}, SLOTS}, {{"smith"}, SLOTS}, {{"steps"}, SLOTS},
        {{"step"}, SLOTS, COUNTS, PROPERTIES}, {{"entryAfter"}, SLOTS, COUNTS, LINES, LINES, PARTS},
        {{"solve"}, SLOTS, SLOTS, SLOTS}, {{"kernel"}, SLOTS, SLOTS}, {{"invariant"}, SLOTS, LINES, PARTS}, {{"order"}, SLOTS},
        {{"determinant"}, SLOTS, PARTS}, {{"sameSpan"}, SLOTS, SLOTS}, {{"areEquivalent"}, SLOTS, SLOTS}, {{"type"}, CODES},
        {{"clearText"}}, {{"fault"}, RINGS}, {{"parse"}, SLOTS, RINGS}, {{"write"}, SLOTS}, {{"written"}, PLACES},
    };
    /** For these the state does not matter. */
    private static final Object[][][] GRIDS_OF_ELEMENTS = {
        {{"quotient"}, RINGS, FIRSTS, FIRSTS, PARTS}, {{"gcd"}, FEWER_RINGS, FIRSTS, SECONDS, FIRSTS, SECONDS, PARTS},
    };

    /** Calls that lead from a new object to a state. */
    private final List<Script.Call> past = new ArrayList<>();
    /** Calls that have been made since then, and should have changed nothing. */
    private final List<Script.Call> harmless = new ArrayList<>();
    private RingMatrices object;
    private Model model;
    private String state;

    public static void main(String[] arguments) {
        for (GridTest test : List.of(new GridTest(), integers(), gaussians(), polynomials(), fullLogs(), failing(), fullText())) {
            test.run(GRIDS);
        }
        new GridTest().run(GRIDS_OF_ELEMENTS);
        Script.finish();
    }

    private void run(Object[][][] grids) {
        renew();
        for (Object[][] grid : grids) {
            tryAll((String) grid[0][0], grid, new Object[grid.length - 1], 0);
            compareState();
        }
    }

    // ---- the states

    private static GridTest integers() {
        GridTest test = new GridTest();
        test.enter("[1,-2,3;4,5,1000000000]", 0, 0);
        test.make("swap", 0, false, 0, 1);
        test.make("add", 0, true, 0, 1, 7, 0);
        test.enter("[7;-1000000000]", 1, 0);
        test.make("write", 1);
        test.type("[1,2");
        return test;
    }

    private static GridTest gaussians() {
        GridTest test = new GridTest();
        test.enter("[30000-30000i,i;1+i,-30000]", 0, 1);
        test.make("scale", 0, true, 0, 0, 1);
        test.enter("[2+i,1;0,3]", 1, 1);
        test.make("swap", 1, false, 0, 1);
        test.enter("[5;-i]", 2, 1);
        test.make("write", 0);
        test.type("[i,2+i;-1,0]");
        return test;
    }

    private static GridTest polynomials() {
        GridTest test = new GridTest();
        test.enter("[x,1;x^7,x+1;0,1]", 0, 2);
        test.make("add", 0, true, 0, 1, 3, 0);
        test.enter("[6x,1;3,x^2]", 1, 7);
        test.make("scale", 1, false, 1, 3, 0);
        test.enter("[x^7;x^6]", 2, 7);
        test.make("write", 2);
        test.type("[x+1,x]");
        return test;
    }

    private static GridTest fullLogs() {
        GridTest test = new GridTest();
        test.enter("[2,4;6,8]", 0, 0);
        for (int k = 0; k < 198; k++) {
            test.make("scale", 0, k % 2 == 0, k % 4 / 2, 1, 0);
        }
        test.make("swap", 0, true, 0, 1);
        test.make("copy", 0, 1);
        test.make("swap", 0, false, 0, 1);
        test.enter("[2;2]", 2, 0);
        return test;
    }

    /** The forms of the first matrix are in range, but entries on the way to them are not. */
    private static GridTest failing() {
        GridTest test = new GridTest();
        test.enter("[1,1000000000,0;2,-1000000000,1;0,1,0]", 0, 0);
        test.enter("[1,0,0;0,1,0;0,0,1]", 1, 0);
        test.make("swap", 1, false, 0, 1);
        test.make("add", 1, false, 0, 1, -2, 0);
        test.enter("[1;2;1000000000]", 2, 0);
        return test;
    }

    private static GridTest fullText() {
        GridTest test = new GridTest();
        test.make("create", 2, 3, 4, 1);
        test.type("[111111111,111111111,111111111;111111111,111111111,111111111;111111111,111111111,111111111;");
        test.type("111111111,111111111,11111111]");
        return test;
    }

    private void make(String name, Object... arguments) {
        past.add(new Script.Call(name, arguments));
    }

    private void type(String text) {
        for (char c : text.toCharArray()) {
            make("type", (int) c);
        }
    }

    private void enter(String text, int slot, int ring) {
        type(text);
        make("parse", slot, ring);
    }

    // ---- the calls

    private void renew() {
        harmless.clear();
        object = new RingMatrices();
        model = new Model();
        for (Script.Call call : past) {
            call.on(object);
            call.on(model);
        }
    }

    private void tryAll(String name, Object[][] grid, Object[] arguments, int chosen) {
        if (chosen == arguments.length) {
            compare(new Script.Call(name, arguments.clone()));
            return;
        }
        for (Object value : grid[chosen + 1]) {
            arguments[chosen] = value;
            tryAll(name, grid, arguments, chosen + 1);
        }
    }

    private void compare(Script.Call call) {
        String due = call.on(model);
        String got = call.on(object);
        Script.check(due.equals(got) ? "" : call + " answered " + got + ", due is " + due, due.equals(got));
        if (due.equals(got) && (due.startsWith("throws") || call.onlyTells())) {
            harmless.add(call);
            if (harmless.size() >= BATCH) {
                compareState();
            }
        } else {
            compareState();
            renew();
        }
    }

    /** What the harmless calls left is what there was before them; the state is asked of twins. */
    private void compareState() {
        if (harmless.isEmpty()) {
            return;
        }
        if (state == null) {
            state = new Script.Twins(past).state();
        }
        List<Script.Call> all = new ArrayList<>(past);
        all.addAll(harmless);
        String left = new Script.Twins(all).state();
        Script.check("calls up to " + harmless.get(harmless.size() - 1) + " left " + left, left.equals(state));
        renew();
    }
}
