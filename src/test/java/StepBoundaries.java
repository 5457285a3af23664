/** The boundary cases of the promises 10 to 19: steps, logs and forms. */
final class StepBoundaries {
    private static final String NO_SLOT = "Throws `IndexOutOfBoundsException` if there is no such slot";
    private static final String EMPTY = "Throws `IllegalStateException` if the slot is empty";
    private static final String FAILS = "Throws `ArithmeticException` if it fails";
    private static final String SIDES = "- `columns`: false for rows, true for columns";
    private static final String COUNT = "Returns the number of steps of the log then.";
    private static final Object[] NO_ROWS = {-1, 2, 3, 4, Integer.MIN_VALUE, Integer.MAX_VALUE};
    private static final Object[] NO_COLUMNS = {-1, 3, 4, Integer.MIN_VALUE, Integer.MAX_VALUE};
    /** Two rows, three columns. */
    private static final String OBLONG = "typed [1,2,3;4,5,6] | parse(0, 0) = 2 | scale(0, false, 0, 1, 0) = 1";

    private StepBoundaries() {
    }

    static void run() {
        swap();
        add();
        addThrows();
        scale();
        back();
        transfer();
        transferThrows();
        hermite();
        smith();
        steps();
        step();
        entryAfter();
    }

    private static void emptySlots(int promise, String... calls) {
        for (String call : calls) {
            Sentences.test(promise, EMPTY,
                Sentences.each(call + " throws IllegalState", 0, 1, 2), "create(1, 0, 2, 2) = 1",
                Sentences.each(call + " throws IllegalState", 0, 2));
        }
    }

    private static void swap() {
        Sentences.test(10, "Does a step of kind 0 or 3.",
            "typed [1,2;3,4] | parse(0, 0) = 2 | swap(0, false, 1, 0) = 1 | slot 0 is [3,4;1,2] | swap(0, true, 0, 1) = 2 | "
            + "slot 0 is [4,3;2,1] | log 0 is 0,1,0,0,0 3,0,1,0,0",
            // The largest entries are swapped, too.
            "typed [1000000000;-1000000000] | parse(1, 0) = 2 | swap(1, false, 0, 1) = 1 | slot 1 is [-1000000000;1000000000]");
        Sentences.test(10, SIDES, OBLONG, "swap(0, true, 0, 2) = 2 | slot 0 is [3,2,1;6,5,4] | "
            + "swap(0, false, 0, 2) throws IllegalArgument | swap(0, false, 2, 0) throws IllegalArgument | swap(0, false, 0, 1) = 3 | "
            + "slot 0 is [6,5,4;3,2,1]");
        Sentences.test(10, "- `j`: another row or column", OBLONG,
            Sentences.each("swap(0, false, #, #) throws IllegalArgument", 0, 1),
            Sentences.each("swap(0, true, #, #) throws IllegalArgument", 0, 1, 2), "swap(0, true, 1, 2) = 2 | swap(0, true, 2, 1) = 3");
        Sentences.test(10, COUNT, "create(0, 0, 2, 2) = 1 | swap(0, false, 0, 1) = 1 | swap(0, true, 0, 1) = 2 | "
            + "times 197 swap(0, false, 0, 1) | swap(0, true, 0, 1) = 200 | swap(0, true, 0, 1) throws Arithmetic | back(0) = 199 | "
            + "swap(0, false, 0, 1) = 200");
        MatrixBoundaries.noSuchSlot(10, NO_SLOT, "swap(#, false, 0, 1)", "swap(#, true, 9, 9)");
        emptySlots(10, "swap(#, false, 0, 1)", "swap(#, true, 5, 5)");
        String argument = "Throws `IllegalArgumentException` if there is no such row or column, or both are the same";
        Sentences.test(10, argument, OBLONG,
            Sentences.each("swap(0, false, #, 0) throws IllegalArgument | "
            + "swap(0, false, 0, #) throws IllegalArgument", NO_ROWS),
            Sentences.each("swap(0, true, #, 0) throws IllegalArgument | "
            + "swap(0, true, 0, #) throws IllegalArgument", NO_COLUMNS),
            "swap(0, false, 1, 1) throws IllegalArgument | swap(0, true, 2, 2) throws IllegalArgument | "
            + "swap(0, true, -1, -1) throws IllegalArgument");
        // In a full log, too, this is the exception.
        Sentences.test(10, argument, "create(0, 0, 1, 2) = 1 | times 200 swap(0, true, 0, 1) | "
            + "swap(0, true, 1, 1) throws IllegalArgument | swap(0, false, 0, 1) throws IllegalArgument | "
            + "swap(0, true, 0, 2) throws IllegalArgument | swap(0, true, 0, 1) throws Arithmetic");
        Sentences.test(10, FAILS, "typed [1;2] | parse(0, 0) = 2 | times 199 swap(0, false, 0, 1) | swap(0, false, 0, 1) = 200 | "
            + "swap(0, false, 0, 1) throws Arithmetic | swap(0, false, 1, 0) throws Arithmetic");
    }

    private static void add() {
        Sentences.test(11, "Does a step of kind 1 or 4.",
            "typed [1,2;3,4] | parse(0, 0) = 2 | add(0, false, 0, 1, -2, 0) = 1 | slot 0 is [-5,-6;3,4] | add(0, true, 1, 0, 3, 0) = 2 | "
            + "slot 0 is [-5,-21;3,13] | log 0 is 1,0,1,-2,0 4,1,0,3,0",
            "add(0, true, 1, 0, 0, 0) = 3 | slot 0 is [-5,-21;3,13] | step(0, 2, 3) = 0");
        Sentences.test(11, SIDES, OBLONG, "add(0, true, 0, 2, 1, 0) = 2 | slot 0 is [4,2,3;10,5,6] | "
            + "add(0, false, 0, 2, 1, 0) throws IllegalArgument | add(0, false, 2, 0, 1, 0) throws IllegalArgument | "
            + "add(0, false, 1, 0, -1, 0) = 3 | slot 0 is [4,2,3;6,3,3]");
        Sentences.test(11, COUNT, "create(0, 0, 2, 2) = 1 | add(0, false, 0, 1, 1, 0) = 1 | add(0, true, 0, 1, 1, 0) = 2 | "
            + "times 197 add(0, false, 0, 1, 1, 0) | add(0, true, 0, 1, 1, 0) = 200 | add(0, true, 0, 1, 1, 0) throws Arithmetic | "
            + "back(0) = 199 | add(0, false, 1, 0, 1, 0) = 200");
        MatrixBoundaries.noSuchSlot(11, NO_SLOT, "add(#, false, 0, 1, 1, 0)", "add(#, true, 9, 9, 1000000001, 1)");
        emptySlots(11, "add(#, false, 0, 1, 1, 0)", "add(#, true, 5, 5, 1000000001, 1)");
    }

    private static void addThrows() {
        String argument = "Throws `IllegalArgumentException` if there is no such row or column, both are the same, or the parts are not "
            + "those of an element of the ring that is in range";
        Sentences.test(11, argument, OBLONG,
            Sentences.each("add(0, false, #, 0, 1, 0) throws IllegalArgument | "
            + "add(0, false, 0, #, 1, 0) throws IllegalArgument", NO_ROWS),
            Sentences.each("add(0, true, #, 0, 1, 0) throws IllegalArgument | "
            + "add(0, true, 0, #, 1, 0) throws IllegalArgument", NO_COLUMNS),
            Sentences.each("add(0, false, #, #, 1, 0) throws IllegalArgument", 0, 1),
            Sentences.each("add(0, true, #, #, 0, 0) throws IllegalArgument",
            0, 1, 2));
        Sentences.test(11, argument, "create(0, 0, 2, 2) = 1",
            Sentences.each("add(0, false, 0, 1, #) throws IllegalArgument",
            "1000000001, 0", "-1000000001, 0", "1, 1", "0, -1", "-2147483648, 0"),
            "add(0, false, 0, 1, 1000000000, 0) = 1 | add(0, false, 0, 1, -1000000000, 0) = 2");
        Sentences.test(11, argument, "create(0, 1, 2, 2) = 1",
            Sentences.each("add(0, true, 0, 1, #) throws IllegalArgument", "30001, 0",
            "-30001, 0", "0, 30001", "0, -30001"), "add(0, true, 0, 1, 30000, 30000) = 1 | add(0, false, 0, 1, -30000, -30000) = 2");
        Sentences.test(11, argument, "create(0, 3, 2, 2) = 1",
            Sentences.each("add(0, true, 0, 1, #) throws IllegalArgument", "6561, 0",
            "-1, 0", "1, 1", "1, -1"), "add(0, true, 0, 1, 6560, 0) = 1 | add(0, true, 0, 1, 0, 0) = 2");
        // Where the sum would be out of range, or the log is full, this comes first all the same.
        Sentences.test(11, argument, "typed [1000000000;1000000000] | parse(0, 0) = 2 | add(0, false, 0, 1, 1, 0) throws Arithmetic | "
            + "add(0, false, 0, 1, 1, 1) throws IllegalArgument | add(0, false, 0, 0, 1, 0) throws IllegalArgument | "
            + "times 200 scale(0, true, 0, 1, 0) | add(0, false, 0, 1, 0, 1) throws IllegalArgument | "
            + "add(0, false, 0, 2, 0, 0) throws IllegalArgument | add(0, false, 0, 1, 0, 0) throws Arithmetic");
        Sentences.test(11, FAILS, "typed [0,0,0,999999999;0,0,0,1] | parse(0, 0) = 2 | add(0, false, 0, 1, 2, 0) throws Arithmetic | "
            + "add(0, false, 0, 1, 1, 0) = 1 | slot 0 is [0,0,0,1000000000;0,0,0,1] | add(0, false, 0, 1, 1, 0) throws Arithmetic | "
            + "add(0, false, 0, 1, -1000000000, 0) = 2 | add(0, false, 0, 1, -1000000000, 0) = 3 | slot 0 is [0,0,0,-1000000000;0,0,0,1] | "
            + "add(0, false, 0, 1, -1, 0) throws Arithmetic");
        Sentences.test(11, FAILS, "typed [0;0;0;1] | parse(0, 0) = 4 | create(1, 0, 4, 2) = 1 | set(1, 3, 0, 1000000000, 0) = 0 | "
            + "set(1, 3, 1, 1, 0) = 0 | add(1, true, 0, 1, 1, 0) throws Arithmetic | add(1, true, 1, 0, 1, 0) throws Arithmetic | "
            + "add(1, true, 0, 1, -1, 0) = 1 | entry(1, 3, 0, 0) = 999999999");
        // 65536 times 65536 is 0 as an int.
        Sentences.test(11, FAILS, "typed [0;65536] | parse(0, 0) = 2 | add(0, false, 0, 1, 65536, 0) throws Arithmetic | typed [x^3;x^2] | "
            + "parse(0, 5) = 2 | add(0, false, 0, 1, 15625, 0) throws Arithmetic | add(0, false, 0, 1, 3125, 0) = 1 | "
            + "slot 0 is [x^7+x^3;x^2]");
    }

    private static void scale() {
        Sentences.test(12, "Does a step of kind 2 or 5.",
            "typed [1,2;3,4] | parse(0, 0) = 2 | scale(0, false, 1, -1, 0) = 1 | slot 0 is [1,2;-3,-4] | scale(0, true, 1, -1, 0) = 2 | "
            + "slot 0 is [1,-2;-3,4] | log 0 is 2,1,-1,-1,0 5,1,-1,-1,0",
            "typed [1000000000,-1000000000] | parse(1, 0) = 1 | scale(1, false, 0, -1, 0) = 1 | slot 1 is [-1000000000,1000000000] | "
            + "typed [30000-30000i] | parse(1, 1) = 1 | scale(1, false, 0, 0, 1) = 1 | slot 1 is [30000+30000i]");
        Sentences.test(12, SIDES, OBLONG, "scale(0, true, 2, -1, 0) = 2 | slot 0 is [1,2,-3;4,5,-6] | "
            + "scale(0, false, 2, -1, 0) throws IllegalArgument | scale(0, false, 1, -1, 0) = 3 | slot 0 is [1,2,-3;-4,-5,6]");
        Sentences.test(12, COUNT, "create(0, 0, 1, 1) = 1 | scale(0, false, 0, 1, 0) = 1 | scale(0, true, 0, 1, 0) = 2 | "
            + "times 197 scale(0, false, 0, 1, 0) | scale(0, true, 0, 1, 0) = 200 | scale(0, true, 0, 1, 0) throws Arithmetic | "
            + "back(0) = 199 | scale(0, false, 0, 1, 0) = 200");
        MatrixBoundaries.noSuchSlot(12, NO_SLOT, "scale(#, false, 0, 1, 0)", "scale(#, true, 9, 0, 0)");
        emptySlots(12, "scale(#, false, 0, 1, 0)", "scale(#, true, 5, 0, 0)");
        String argument = "Throws `IllegalArgumentException` if there is no such row or column, or the parts are not those of a unit of "
            + "the ring";
        Sentences.test(12, argument, OBLONG,
            Sentences.each("scale(0, false, #, 1, 0) throws IllegalArgument", NO_ROWS),
            Sentences.each("scale(0, true, #, 1, 0) throws IllegalArgument",
            NO_COLUMNS),
            Sentences.each("scale(0, false, 0, #) throws IllegalArgument", "0, 0", "2, 0", "-2, 0", "1, 1", "0, 1", "0, -1", "-1, 1",
            "1000000001, 0"), "scale(0, false, 1, -1, 0) = 2 | scale(0, true, 2, 1, 0) = 3");
        Sentences.test(12, argument, "create(0, 1, 1, 1) = 1",
            Sentences.each("scale(0, false, 0, #) throws IllegalArgument", "0, 0",
            "1, 1", "1, -1", "2, 0", "0, -2", "30001, 0", "-2147483648, -2147483648", "65536, 65537"),
            Sentences.each("scale(0, false, 0, #",
            "0, 1) = 1", "0, -1) = 2", "1, 0) = 3", "-1, 0) = 4"));
        Sentences.test(12, argument, "create(0, 5, 1, 1) = 1",
            Sentences.each("scale(0, false, 0, #) throws IllegalArgument", "0, 0",
            "5, 0", "6, 0", "-1, 0", "1, 1", "390625, 0"),
            Sentences.each("scale(0, false, 0, #", "1, 0) = 1", "4, 0) = 2"));
        Sentences.test(12, argument, "create(0, 0, 1, 1) = 1 | times 200 scale(0, true, 0, -1, 0) | "
            + "scale(0, true, 0, 2, 0) throws IllegalArgument | scale(0, true, 1, 1, 0) throws IllegalArgument | "
            + "scale(0, true, 0, 1, 0) throws Arithmetic");
        Sentences.test(12, FAILS, "typed [3] | parse(0, 0) = 1 | times 199 scale(0, true, 0, -1, 0) | scale(0, true, 0, -1, 0) = 200 | "
            + "scale(0, true, 0, -1, 0) throws Arithmetic | scale(0, false, 0, 1, 0) throws Arithmetic | slot 0 is [3]");
    }

    private static void back() {
        Sentences.test(13, "Takes back the last step of a log, which is removed from it.",
            "typed [1,2;3,4] | parse(0, 0) = 2 | swap(0, false, 0, 1) = 1 | add(0, true, 0, 1, 5, 0) = 2 | back(0) = 1 | "
            + "slot 0 is [3,4;1,2] | log 0 is 0,0,1,0,0 | step(0, 1, 0) throws IndexOutOfBounds | back(0) = 0 | slot 0 is [1,2;3,4] | "
            + "log 0 is ",
            // All six kinds, and factors that are not their own inverses.
            "typed [1+i,2;3,4i] | parse(0, 1) = 2 | swap(0, true, 0, 1) = 1 | scale(0, false, 0, 0, 1) = 2 | "
            + "scale(0, true, 1, 0, -1) = 3 | add(0, false, 0, 1, 2, -3) = 4 | add(0, true, 1, 0, -1, 1) = 5 | swap(0, false, 0, 1) = 6 | "
            + "back(0) = 5 | back(0) = 4 | back(0) = 3 | back(0) = 2 | back(0) = 1 | back(0) = 0 | slot 0 is [1+i,2;3,4i]",
            "typed [3x+1,x;2,5x^2] | parse(0, 7) = 2 | scale(0, false, 0, 3, 0) = 1 | add(0, true, 0, 1, 50, 0) = 2 | "
            + "scale(0, true, 1, 5, 0) = 3 | back(0) = 2 | back(0) = 1 | back(0) = 0 | slot 0 is [3x+1,x;2,5x^2]");
        // To the edge of the range and back.
        Sentences.test(13, "Takes back the last step of a log, which is removed from it.",
            "typed [-1000000000;1000000000] | parse(0, 0) = 2 | add(0, false, 0, 1, 2, 0) = 1 | back(0) = 0 | "
            + "slot 0 is [-1000000000;1000000000] | typed [x^7;x^7] | parse(0, 2) = 2 | add(0, false, 0, 1, 1, 0) = 1 | "
            + "slot 0 is [0;x^7] | back(0) = 0 | slot 0 is [x^7;x^7]");
        Sentences.test(13, "Returns the number of steps that are left.",
            "typed [1;2] | parse(0, 0) = 2 | times 200 swap(0, false, 0, 1) | back(0) = 199 | back(0) = 198 | times 196 back(0) | "
            + "back(0) = 1 | back(0) = 0 | back(0) throws IllegalState | slot 0 is [1;2]");
        MatrixBoundaries.noSuchSlot(13, NO_SLOT, "back(#)");
        Sentences.test(13, "Throws `IllegalStateException` if the slot is empty, or its log is empty",
            Sentences.each("back(#) throws IllegalState",
            0, 1, 2), "create(0, 0, 2, 2) = 1 | back(0) throws IllegalState | swap(0, true, 0, 1) = 1 | back(0) = 0 | "
            + "back(0) throws IllegalState | swap(0, true, 0, 1) = 1 | set(0, 0, 0, 1, 0) = 0 | back(0) throws IllegalState | typed [5] | "
            + "parse(0, 0) = 1 | back(0) throws IllegalState");
    }

    private static void transfer() {
        String all = "Does all row steps, or all column steps, of the log of one slot to the matrix of another one, in their order.";
        String mixed = "create(0, 0, 2, 2) = 1 | swap(0, false, 0, 1) = 1 | swap(0, true, 0, 1) = 2 | add(0, false, 0, 1, 2, 0) = 3 | "
            + "add(0, true, 0, 1, 3, 0) = 4 | scale(0, false, 1, -1, 0) = 5 | scale(0, true, 0, -1, 0) = 6";
        Sentences.test(14, all, mixed, "typed [1,2;3,4] | parse(1, 0) = 2 | transfer(0, 1, false) = 3 | slot 1 is [5,8;-1,-2] | "
            + "log 1 is 0,0,1,0,0 1,0,1,2,0 2,1,-1,-1,0 | steps(0) = 6",
            "typed [1,2;3,4] | parse(1, 0) = 2 | transfer(0, 1, true) = 3 | slot 1 is [-5,1;-13,3] | "
            + "log 1 is 3,0,1,0,0 4,0,1,3,0 5,0,-1,-1,0");
        Sentences.test(14, "- `columns`: false for row steps (kinds 0 to 2), true for column steps (kinds 3 to 5)", mixed,
            "create(1, 0, 2, 4) = 1 | transfer(0, 1, false) = 3 | transfer(0, 1, true) throws IllegalState | create(2, 0, 4, 2) = 1 | "
            + "transfer(0, 2, true) = 3 | transfer(0, 2, false) throws IllegalState");
        Sentences.test(14, "Returns how many steps were done.",
            "create(0, 0, 2, 2) = 1 | create(1, 0, 2, 2) = 1 | transfer(0, 1, false) = 0 unchanged | swap(0, false, 0, 1) = 1 | "
            + "transfer(0, 1, true) = 0 unchanged | transfer(0, 1, false) = 1 | transfer(1, 0, false) = 1 | steps(0) = 2 | "
            + "transfer(0, 1, false) = 2 | steps(1) = 3");
        Sentences.test(14, "Returns how many steps were done.",
            "create(0, 0, 2, 1) = 1 | times 200 swap(0, false, 0, 1) | typed [5;6] | parse(1, 0) = 2 | transfer(0, 1, false) = 200 | "
            + "steps(1) = 200 | slot 1 is [5;6] | transfer(0, 1, true) = 0 unchanged");
    }

    private static void transferThrows() {
        MatrixBoundaries.noSuchSlot(14, NO_SLOT + " (either one)", "transfer(#, 0, false)", "transfer(0, #, true)", "transfer(#, #, false)",
            "transfer(1, #, false)");
        String state = "Throws `IllegalStateException` if a slot is empty, both slots are the same, their rings differ, or their matrices "
            + "do not have equally many rows (columns, if columns is true)";
        Sentences.test(14, state, "transfer(0, 1, false) throws IllegalState | create(0, 0, 2, 2) = 1 | swap(0, false, 0, 1) = 1 | "
            + "transfer(0, 1, false) throws IllegalState | transfer(1, 0, false) throws IllegalState | "
            + "transfer(0, 1, true) throws IllegalState | transfer(2, 2, true) throws IllegalState");
        Sentences.test(14, state, "create(0, 0, 2, 2) = 1 | transfer(0, 0, false) throws IllegalState | "
            + "transfer(0, 0, true) throws IllegalState | swap(0, false, 0, 1) = 1 | transfer(0, 0, false) throws IllegalState | "
            + "transfer(0, 0, true) throws IllegalState");
        Sentences.test(14, state, "create(0, 2, 2, 2) = 1 | create(1, 3, 2, 2) = 1 | transfer(0, 1, false) throws IllegalState | "
            + "transfer(0, 1, true) throws IllegalState | create(1, 2, 2, 2) = 0 | transfer(0, 1, false) = 0 | create(1, 0, 2, 2) = 0 | "
            + "transfer(0, 1, false) throws IllegalState");
        Sentences.test(14, state, "create(0, 0, 2, 3) = 1 | swap(0, false, 0, 1) = 1 | swap(0, true, 0, 1) = 2",
            Sentences.each("create(1, 0, #, 3) = 1 | "
            + "transfer(0, 1, false) throws IllegalState | transfer(0, 1, true) = 1", 1),
            Sentences.each("create(1, 0, #, 3) = 0 | "
            + "transfer(0, 1, false) throws IllegalState | transfer(0, 1, true) = 1", 3, 4),
            Sentences.each("create(1, 0, 2, #) = 0 | transfer(0, 1, true) throws IllegalState | transfer(0, 1, false) = 1", 1, 2, 4),
            "create(1, 0, 2, 3) = 0 | transfer(0, 1, true) = 1 | transfer(0, 1, false) = 1");
        // What would fail in matrices that fit together is no failure in those that do not.
        Sentences.test(14, state, "create(0, 0, 2, 2) = 1 | add(0, false, 0, 1, 2, 0) = 1 | typed [1000000000;1000000000;1] | "
            + "parse(1, 0) = 3 | transfer(0, 1, false) throws IllegalState | typed [1000000000;1000000000] | parse(1, 0) = 2 | "
            + "transfer(0, 1, false) throws Arithmetic");
        Sentences.test(14, FAILS, "create(0, 0, 2, 2) = 1 | swap(0, false, 0, 1) = 1 | add(0, false, 0, 1, 1, 0) = 2 | "
            + "typed [1;999999999] | parse(1, 0) = 2 | transfer(0, 1, false) = 2 | slot 1 is [1000000000;1] | typed [2;999999999] | "
            + "parse(1, 0) = 2 | scale(1, true, 0, 1, 0) = 1 | transfer(0, 1, false) throws Arithmetic");
        Sentences.test(14, FAILS, "create(0, 0, 2, 2) = 1 | swap(0, false, 0, 1) = 1 | swap(0, true, 0, 1) = 2 | "
            + "swap(0, false, 0, 1) = 3 | typed [1;2] | parse(1, 0) = 2 | times 198 swap(1, false, 0, 1) | transfer(0, 1, false) = 2 | "
            + "steps(1) = 200 | transfer(0, 1, false) throws Arithmetic | back(1) = 199 | transfer(0, 1, false) throws Arithmetic");
    }

    private static void hermite() {
        Sentences.test(15, "Brings a matrix to its Hermite form.",
            "typed [4,1;6,2] | parse(0, 0) = 2 | hermite(0) = 2 | slot 0 is [2,0;0,1] | entryAfter(0, 0, 0, 0, 0) = 4 | "
            + "hermite(0) = 2 unchanged", "typed [-5] | parse(1, 0) = 1 | hermite(1) = 1 | slot 1 is [5] | create(2, 1, 4, 4) = 1 | "
            + "hermite(2) = 0 unchanged");
        Sentences.test(15, "Returns the rank.",
            "create(0, 0, 4, 4) = 1 | hermite(0) = 0 | typed [0,0;0,7] | parse(0, 0) = 2 | hermite(0) = 1 | typed [1,2;3,4] | "
            + "parse(0, 0) = 2 | hermite(0) = 2 | typed [1;2;3;4] | parse(0, 0) = 4 | hermite(0) = 1 | typed [1,2,3,4] | parse(0, 0) = 1 | "
            + "hermite(0) = 1",
            "typed [1,0,0,1;0,1,0,1;0,0,1,1;1,1,1,1] | parse(0, 0) = 4 | hermite(0) = 4 | typed [1,0,0,1;0,1,0,1;0,0,1,1;1,1,1,1] | "
            + "parse(0, 2) = 4 | hermite(0) = 3 | hermite(0) = 3");
        MatrixBoundaries.noSuchSlot(15, NO_SLOT, "hermite(#)");
        emptySlots(15, "hermite(#)");
        Sentences.test(15, FAILS, "typed [1,500000000;1,-500000000] | parse(0, 0) = 2 | hermite(0) = 2 | "
            + "slot 0 is [1,500000000;0,1000000000] | typed [1,500000000;1,-500000001] | parse(0, 0) = 2 | swap(0, true, 0, 1) = 1 | "
            + "swap(0, true, 0, 1) = 2 | hermite(0) throws Arithmetic | steps(0) = 2");
        // Above the pivot: 1 - 1000000000 * 2.
        Sentences.test(15, FAILS, "typed [1,1000000000,1;0,1,2] | parse(0, 0) = 2 | hermite(0) throws Arithmetic | "
            + "typed [1,1000000000,1000000000;0,1,2] | parse(0, 0) = 2 | hermite(0) = 2 | slot 0 is [1,0,-1000000000;0,1,2]");
        Sentences.test(15, FAILS, "typed [2,4;6,8] | parse(0, 0) = 2 | times 197 scale(0, false, 0, 1, 0) | hermite(0) = 2 | steps(0) = 200",
            "typed [2,4;6,8] | parse(1, 0) = 2 | times 198 scale(1, false, 0, 1, 0) | hermite(1) throws Arithmetic | steps(1) = 198");
        Sentences.test(15, FAILS, "typed " + TermsBoundaries.HERMITE_201 + " | parse(0, 0) = 4 | hermite(0) throws Arithmetic | typed " + TermsBoundaries.HERMITE_200 + " | "
            + "parse(0, 0) = 4 | hermite(0) = 3");
    }

    private static void smith() {
        Sentences.test(16, "Brings a matrix to its Smith form.",
            "typed [4,6;6,4] | parse(0, 0) = 2 | smith(0) = 2 | slot 0 is [2,0;0,10] | entryAfter(0, 0, 0, 0, 0) = 4 | "
            + "smith(0) = 2 unchanged", "typed [-5] | parse(1, 0) = 1 | smith(1) = 1 | slot 1 is [5] | create(2, 1, 4, 4) = 1 | "
            + "smith(2) = 0 unchanged");
        Sentences.test(16, "Returns the rank.",
            "create(0, 0, 4, 4) = 1 | smith(0) = 0 | typed [0,0;0,7] | parse(0, 0) = 2 | smith(0) = 1 | typed [1,2;3,4] | "
            + "parse(0, 0) = 2 | smith(0) = 2 | typed [1;2;3;4] | parse(0, 0) = 4 | smith(0) = 1 | typed [1,2,3,4] | parse(0, 0) = 1 | "
            + "smith(0) = 1",
            "typed [1,0,0,1;0,1,0,1;0,0,1,1;1,1,1,1] | parse(0, 0) = 4 | smith(0) = 4 | typed [1,0,0,1;0,1,0,1;0,0,1,1;1,1,1,1] | "
            + "parse(0, 2) = 4 | smith(0) = 3 | smith(0) = 3");
        MatrixBoundaries.noSuchSlot(16, NO_SLOT, "smith(#)");
        emptySlots(16, "smith(#)");
        Sentences.test(16, FAILS, "typed [1,500000000;1,-500000000] | parse(0, 0) = 2 | smith(0) = 2 | slot 0 is [1,0;0,1000000000] | "
            + "typed [1,500000000;1,-500000001] | parse(0, 0) = 2 | swap(0, true, 0, 1) = 1 | swap(0, true, 0, 1) = 2 | "
            + "smith(0) throws Arithmetic | steps(0) = 2");
        // The second invariant is the product, which is just in range, and then is not.
        Sentences.test(16, FAILS, "typed [31622,0;0,31623] | parse(0, 0) = 2 | smith(0) = 2 | slot 0 is [1,0;0,999982506] | "
            + "typed [31623,0;0,31624] | parse(0, 0) = 2 | smith(0) throws Arithmetic");
        Sentences.test(16, FAILS, "typed [2,4;6,8] | parse(0, 0) = 2 | times 197 scale(0, false, 0, 1, 0) | smith(0) = 2 | steps(0) = 200",
            "typed [2,4;6,8] | parse(1, 0) = 2 | times 198 scale(1, false, 0, 1, 0) | smith(1) throws Arithmetic | steps(1) = 198");
        Sentences.test(16, FAILS, "typed " + TermsBoundaries.SMITH_201 + " | parse(0, 0) = 4 | smith(0) throws Arithmetic | typed " + TermsBoundaries.SMITH_200 + " | "
            + "parse(0, 0) = 4 | smith(0) = 2");
    }

    private static void steps() {
        Sentences.test(17, "Returns the number of steps of a log.",
            "create(0, 0, 2, 2) = 1 | steps(0) = 0 | swap(0, false, 0, 1) = 1 | steps(0) = 1 | back(0) = 0 | steps(0) = 0 | "
            + "times 200 swap(0, false, 0, 1) | steps(0) = 200 | swap(0, false, 0, 1) throws Arithmetic | steps(0) = 200");
        Sentences.test(17, "Returns the number of steps; 0 if the slot is empty.",
            Sentences.each("steps(#) = 0", 0, 1, 2),
            "create(1, 0, 2, 2) = 1 | swap(1, false, 0, 1) = 1",
            Sentences.each("steps(#) = 0", 0, 2), "steps(1) = 1");
        MatrixBoundaries.noSuchSlot(17, NO_SLOT, "steps(#)");
    }

    private static void step() {
        String three = "create(0, 1, 3, 3) = 1 | swap(0, false, 2, 1) = 1 | add(0, true, 0, 2, -30000, 30000) = 2 | "
            + "scale(0, false, 1, 0, -1) = 3";
        Sentences.test(18, "Returns a property of a step of a log.", three, "step(0, 0, 0) = 0 | step(0, 1, 0) = 4 | step(0, 2, 0) = 2");
        Sentences.test(18, "- `step`: the index of the step, from 0", three, "step(0, 0, 1) = 2 | step(0, 2, 1) = 1",
            Sentences.each("step(0, #, 1) throws IndexOutOfBounds",
            -1, 3, 199, 200, Integer.MIN_VALUE, Integer.MAX_VALUE),
            "back(0) = 2 | step(0, 2, 0) throws IndexOutOfBounds | step(0, 1, 0) = 4");
        Sentences.test(18, "- `step`: the index of the step, from 0",
            "create(0, 0, 1, 2) = 1 | step(0, 0, 0) throws IndexOutOfBounds | times 199 swap(0, true, 0, 1) | step(0, 198, 0) = 3 | "
            + "step(0, 199, 0) throws IndexOutOfBounds | scale(0, true, 1, -1, 0) = 200 | step(0, 199, 0) = 5 | "
            + "step(0, 200, 0) throws IndexOutOfBounds");
        Sentences.test(18, "- `what`: 0: its kind; 1: i; 2: j (NONE in the kinds 2 and 5); 3, 4: the first and the second part of f (0 in "
            + "the kinds 0 and 3)", "create(0, 1, 3, 3) = 1 | swap(0, false, 2, 1) = 1 | add(0, false, 2, 0, 5, -6) = 2 | "
            + "scale(0, false, 2, 0, -1) = 3 | swap(0, true, 0, 2) = 4 | add(0, true, 1, 2, -7, 8) = 5 | scale(0, true, 1, -1, 0) = 6",
            "log 0 is 0,2,1,0,0 1,2,0,5,-6 2,2,-1,0,-1 3,0,2,0,0 4,1,2,-7,8 5,1,-1,-1,0",
            Sentences.each("step(0, 0, #) throws IllegalArgument",
            -1, 5, 6, Integer.MIN_VALUE, Integer.MAX_VALUE),
            "step(0, 5, 4) = 0 | step(0, 5, 0) = 5 | step(0, 5, 2) = -1 | step(0, 2, 2) = -1");
        Sentences.test(18, "Returns the property.",
            "create(0, 0, 2, 2) = 1 | add(0, false, 0, 1, -1000000000, 0) = 1 | add(0, true, 1, 0, 1000000000, 0) = 2 | "
            + "step(0, 0, 3) = -1000000000 | step(0, 1, 3) = 1000000000 | step(0, 1, 4) = 0 | create(0, 7, 2, 2) = 0 | "
            + "add(0, false, 0, 1, 5764800, 0) = 1 | step(0, 0, 3) = 5764800 | step(0, 0, 4) = 0");
        MatrixBoundaries.noSuchSlot(18, NO_SLOT + " or step", "step(#, 0, 0)", "step(#, -1, 9)", "step(0, #, 0)", "step(0, #, 5)");
        Sentences.test(18, NO_SLOT + " or step",
            Sentences.each("step(#, 0, 0) throws IndexOutOfBounds | "
            + "step(#, 0, 5) throws IndexOutOfBounds", 0, 1, 2),
            "create(0, 0, 1, 1) = 1 | step(0, 0, 0) throws IndexOutOfBounds | scale(0, true, 0, 1, 0) = 1 | step(0, 0, 0) = 5 | "
            + "step(0, 1, 0) throws IndexOutOfBounds | step(0, 1, 5) throws IndexOutOfBounds | step(1, 0, 0) throws IndexOutOfBounds");
        Sentences.test(18, "Throws `IllegalArgumentException` if what is out of range",
            "create(0, 0, 1, 1) = 1 | scale(0, true, 0, 1, 0) = 1",
            Sentences.each("step(0, 0, #) throws IllegalArgument", -1, 5,
            Integer.MIN_VALUE, Integer.MAX_VALUE), "step(0, 0, 0) = 5 | step(0, 0, 4) = 0");
    }

    private static void entryAfter() {
        String three = "typed [1+i,2;3,4i] | parse(0, 1) = 2 | swap(0, true, 0, 1) = 1 | scale(0, false, 1, 0, 1) = 2 | "
            + "add(0, false, 0, 1, 1, 0) = 3";
        Sentences.test(19, "Returns a part of an entry of a matrix as it was after a number of the steps of its log.", three,
            "entryAfter(0, 1, 1, 0, 0) = 0 | entryAfter(0, 1, 1, 0, 1) = 4 | entryAfter(0, 2, 1, 0, 0) = -4 | "
            + "entryAfter(0, 2, 1, 0, 1) = 0 | entryAfter(0, 3, 0, 0, 0) = -2 | entryAfter(0, 2, 0, 0, 0) = 2");
        Sentences.test(19, "- `steps`: the number of steps, 0 to the number of steps of the log (0: the original matrix)", three,
            "entryAfter(0, 0, 0, 0, 1) = 1 | entryAfter(0, 0, 0, 1, 0) = 2 | entryAfter(0, 3, 0, 1, 1) = 4 | entry(0, 0, 1, 1) = 4",
            Sentences.each("entryAfter(0, #, 0, 0, 0) throws IllegalArgument", -1, 4, 5, 200, 201, Integer.MIN_VALUE, Integer.MAX_VALUE),
            "back(0) = 2 | entryAfter(0, 3, 0, 0, 0) throws IllegalArgument | entryAfter(0, 2, 0, 0, 0) = 2");
        Sentences.test(19, "- `steps`: the number of steps, 0 to the number of steps of the log (0: the original matrix)",
            "typed [1;2] | parse(0, 0) = 2 | entryAfter(0, 0, 0, 0, 0) = 1 | entryAfter(0, 1, 0, 0, 0) throws IllegalArgument | "
            + "times 200 swap(0, false, 0, 1) | entryAfter(0, 200, 0, 0, 0) = 1 | entryAfter(0, 199, 0, 0, 0) = 2 | "
            + "entryAfter(0, 0, 0, 0, 0) = 1 | entryAfter(0, 201, 0, 0, 0) throws IllegalArgument");
        Sentences.test(19, "- `part`: 0 for the first part, 1 for the second part", three,
            "entryAfter(0, 0, 0, 0, 0) = 1 | entryAfter(0, 0, 1, 1, 1) = 4",
            Sentences.each("entryAfter(0, 0, 0, 0, #) throws IllegalArgument",
            -1, 2, Integer.MIN_VALUE, Integer.MAX_VALUE));
        Sentences.test(19, "Returns the part.",
            "typed [-1000000000;1000000000] | parse(0, 0) = 2 | add(0, false, 0, 1, 2, 0) = 1 | entryAfter(0, 0, 0, 0, 0) = -1000000000 | "
            + "entryAfter(0, 1, 0, 0, 0) = 1000000000 | entryAfter(0, 1, 0, 0, 1) = 0");
        MatrixBoundaries.noSuchSlot(19, NO_SLOT, "entryAfter(#, 0, 0, 0, 0)", "entryAfter(#, 9, 9, 9, 9)");
        emptySlots(19, "entryAfter(#, 0, 0, 0, 0)", "entryAfter(#, 1, 9, 9, 9)");
        Sentences.test(19, "Throws `IllegalArgumentException` if steps is out of range, there is no such row or column, or part is out of "
            + "range", OBLONG, "entryAfter(0, 1, 1, 2, 1) = 0",
            Sentences.each("entryAfter(0, #, 0, 0, 0) throws IllegalArgument", -1, 2),
            Sentences.each("entryAfter(0, 0, #, 0, 0) throws IllegalArgument", NO_ROWS),
            Sentences.each("entryAfter(0, 1, 0, #, 0) throws IllegalArgument", NO_COLUMNS),
            Sentences.each("entryAfter(0, 0, 0, 0, #) throws IllegalArgument",
            -1, 2));
    }
}
