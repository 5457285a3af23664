/** The boundary cases of the promises 1 to 9: matrices. */
final class MatrixBoundaries {
    static final Object[] NO_SLOTS = {-1, 3, Integer.MIN_VALUE, Integer.MAX_VALUE};
    private static final String NO_SLOT = "Throws `IndexOutOfBoundsException` if there is no such slot";
    private static final String EMPTY = "Throws `IllegalStateException` if the slot is empty";
    private static final String FAILS = "Throws `ArithmeticException` if it fails";

    private MatrixBoundaries() {
    }

    static void run() {
        newObject();
        create();
        set();
        copy();
        multiply();
        multiplyThrows();
        shape();
        entry();
    }

    /** The calls, with each number that no slot has, throw; on a new object, and where nothing else is wrong. */
    static void noSuchSlot(int promise, String sentence, String... calls) {
        for (String call : calls) {
            String throwing = Sentences.each(call + " throws IndexOutOfBounds", NO_SLOTS);
            Sentences.test(promise, sentence, throwing,
                "typed [1] | parse(0, 0) = 1 | copy(0, 1) = 0 | copy(0, 2) = 0 | scale(0, false, 0, 1, 0) = 1 | write(0) = 3 | typed [8]",
                throwing);
        }
    }

    private static void newObject() {
        String sentence = "Creates three empty slots, an empty text, and an empty written text.";
        Sentences.test(1, sentence,
            Sentences.each("ring(#) = -1 | rows(#) = 0 | columns(#) = 0 | steps(#) = 0 | "
            + "entry(#, 0, 0, 0) throws IllegalState", 0, 1, 2),
            Sentences.each("create(#, 2, 1, 1) = 1", 0, 1, 2));
        Sentences.test(1, sentence,
            Sentences.each("fault(#) = 0", 0, 1, 2, 3, 5, 7), "clearText() = 0 | type(91) = 1");
        Sentences.test(1, sentence, Sentences.each("written(#) throws IndexOutOfBounds", -1, 0, 1),
            "create(0, 0, 1, 1) = 1 | written(0) throws IndexOutOfBounds | write(0) = 3 | written(0) = 91");
    }

    private static void create() {
        Sentences.test(2, "Puts a matrix of zeros into a slot, in place of what it had.",
            "typed [1,2,3,4;5,6,7,8;9,8,7,6;5,4,3,2] | parse(0, 0) = 4 | create(0, 0, 4, 4) = 0 | "
            + "slot 0 is [0,0,0,0;0,0,0,0;0,0,0,0;0,0,0,0]",
            "typed [i,i;i,i] | parse(0, 1) = 2 | create(0, 7, 1, 1) = 0 | ring(0) = 7 | rows(0) = 1 | columns(0) = 1 | slot 0 is [0] | "
            + "create(0, 1, 4, 4) = 0 | slot 0 is [0,0,0,0;0,0,0,0;0,0,0,0;0,0,0,0]");
        Sentences.test(2, "Its log begins.",
            "typed [1,2;3,4] | parse(0, 0) = 2 | smith(0) = 2 | create(0, 0, 2, 2) = 0 | steps(0) = 0 | "
            + "step(0, 0, 0) throws IndexOutOfBounds | back(0) throws IllegalState | entryAfter(0, 0, 0, 0, 0) = 0 | "
            + "entryAfter(0, 0, 1, 1, 0) = 0",
            "times 200 swap(0, false, 0, 1) | create(0, 0, 2, 2) = 0 | swap(0, false, 0, 1) = 1");
        Sentences.test(2, "- `slot`: 0 to 2",
            Sentences.each("create(#, 0, 1, 1) = 1 | create(#, 0, 1, 1) = 0", 0, 1, 2),
            Sentences.each("create(#, 0, 1, 1) throws IndexOutOfBounds",
            NO_SLOTS));
        Sentences.test(2, "- `rows`: 1 to 4", "create(0, 0, 1, 1) = 1",
            Sentences.each("create(0, 0, #, 1) = 0 | rows(0) = # | "
            + "columns(0) = 1", 1, 2, 3, 4),
            Sentences.each("create(0, 0, #, 1) throws IllegalArgument", -1, 0, 5, 6, Integer.MIN_VALUE,
            Integer.MAX_VALUE));
        Sentences.test(2, "- `columns`: 1 to 4", "create(0, 0, 1, 1) = 1",
            Sentences.each("create(0, 0, 1, #) = 0 | columns(0) = # | "
            + "rows(0) = 1", 1, 2, 3, 4),
            Sentences.each("create(0, 0, 1, #) throws IllegalArgument", -1, 0, 5, 6, Integer.MIN_VALUE,
            Integer.MAX_VALUE));
        Sentences.test(2, "Returns 1 if the slot was empty, otherwise 0.",
            "create(0, 0, 1, 1) = 1 | create(0, 0, 1, 1) = 0 | create(1, 0, 1, 1) = 1 | copy(0, 2) = 0 | create(2, 0, 1, 1) = 0");
        Sentences.test(2, "Returns 1 if the slot was empty, otherwise 0.",
            "create(0, 4, 1, 1) throws IllegalArgument | create(0, 0, 5, 1) throws IllegalArgument | create(0, 0, 1, 1) = 1 | "
            + "typed [1,1] | parse(1, 0) = 1 | create(1, 0, 1, 1) = 0 | create(2, 0, 1, 1) = 1");
        noSuchSlot(2, NO_SLOT, "create(#, 0, 1, 1)", "create(#, 4, 1, 1)", "create(#, 0, 5, 0)");
        Sentences.test(2, "Throws `IllegalArgumentException` if another argument is out of range",
            Sentences.each("create(0, #, 1, 1) throws IllegalArgument",
            -1, 4, 6, 8, Integer.MIN_VALUE, Integer.MAX_VALUE),
            Sentences.each("create(0, 0, #) throws IllegalArgument", "0, 1", "5, 1", "1, 0", "1, 5", "0, 0", "5, 5", "0, 5"),
            "ring(0) = -1 | typed [2,3] | parse(0, 0) = 1 | scale(0, true, 0, -1, 0) = 1 | create(0, 4, 2, 2) throws IllegalArgument | "
            + "create(0, 0, 0, 2) throws IllegalArgument | create(0, 0, 2, 5) throws IllegalArgument");
    }

    private static void set() {
        Sentences.test(3, "Sets an entry.",
            "create(0, 0, 4, 4) = 1 | set(0, 0, 0, 1, 0) = 0 | set(0, 0, 3, 2, 0) = 0 | set(0, 3, 0, 3, 0) = 0 | set(0, 3, 3, 4, 0) = 0 | "
            + "slot 0 is [1,0,0,2;0,0,0,0;0,0,0,0;3,0,0,4] | set(0, 3, 3, 0, 0) = 4 | entry(0, 3, 3, 0) = 0");
        Sentences.test(3, "The log of the matrix begins anew.",
            "typed [1,2;3,4] | parse(0, 0) = 2 | swap(0, false, 0, 1) = 1 | set(0, 1, 1, 2, 0) = 2 | steps(0) = 0 | "
            + "entryAfter(0, 0, 0, 0, 0) = 3 | entryAfter(0, 0, 1, 1, 0) = 2 | back(0) throws IllegalState",
            "times 200 scale(0, true, 0, 1, 0) | set(0, 0, 0, 5, 0) = 3 | steps(0) = 0 | scale(0, true, 0, 1, 0) = 1 | "
            + "set(0, 0, 0, 1000000001, 0) throws IllegalArgument | steps(0) = 1");
        Sentences.test(3, "Returns the first part of the previous entry.",
            "create(0, 1, 1, 1) = 1 | set(0, 0, 0, -30000, 30000) = 0 | set(0, 0, 0, 0, -1) = -30000 | set(0, 0, 0, 7, 0) = 0 | "
            + "set(0, 0, 0, 7, 0) = 7");
        noSuchSlot(3, NO_SLOT, "set(#, 0, 0, 1, 0)", "set(#, 9, 9, 1, 0)", "set(#, 0, 0, 1000000001, 1)");
        Sentences.test(3, EMPTY,
            Sentences.each("set(#, 0, 0, 1, 0) throws IllegalState | set(#, -1, 4, 1, 0) throws IllegalState | "
            + "set(#, 0, 0, 1000000001, 0) throws IllegalState", 0, 1, 2), "create(1, 0, 1, 1) = 1 | set(1, 0, 0, 1, 0) = 0",
            Sentences.each("set(#, 0, 0, 1, 0) throws IllegalState", 0, 2));
        String argument = "Throws `IllegalArgumentException` if there is no such row or column, or the parts are not those of an element "
            + "of the ring that is in range";
        Sentences.test(3, argument, "create(0, 0, 2, 3) = 1 | swap(0, false, 0, 1) = 1",
            Sentences.each("set(0, #, 0, 1, 0) throws IllegalArgument",
            -1, 2, 3, 4, Integer.MIN_VALUE, Integer.MAX_VALUE),
                Sentences.each("set(0, 0, #, 1, 0) throws IllegalArgument", -1, 3, 4,
            Integer.MIN_VALUE, Integer.MAX_VALUE),
            Sentences.each("set(0, 0, 0, #) throws IllegalArgument", "1000000001, 0", "-1000000001, 0", "0, 1", "0, -1"),
            "set(0, 1, 2, 1000000000, 0) = 0 | set(0, 0, 0, -1000000000, 0) = 0");
        Sentences.test(3, argument, "create(0, 1, 1, 1) = 1",
            Sentences.each("set(0, 0, 0, #) throws IllegalArgument", "30001, 0",
            "-30001, 0", "0, 30001", "0, -30001"), "set(0, 0, 0, 30000, -30000) = 0 | set(0, 0, 0, -30000, 30000) = 30000");
        Sentences.test(3, argument, "create(0, 7, 1, 1) = 1",
            Sentences.each("set(0, 0, 0, #) throws IllegalArgument", "5764801, 0",
            "-1, 0", "0, 1", "0, -1"), "set(0, 0, 0, 5764800, 0) = 0 | create(0, 2, 1, 1) = 0 | "
            + "set(0, 0, 0, 256, 0) throws IllegalArgument | set(0, 0, 0, 255, 0) = 0");
    }

    private static void copy() {
        Sentences.test(4, "Copies a slot, with its original matrix and its log.",
            "typed [1,2;3,4] | parse(0, 0) = 2 | swap(0, true, 0, 1) = 1 | add(0, false, 0, 1, 2, 0) = 2 | copy(0, 2) = 2 | "
            + "slot 2 is [10,7;4,3] | log 2 is 3,0,1,0,0 1,0,1,2,0 | entryAfter(2, 0, 0, 0, 0) = 1 | entryAfter(2, 1, 0, 0, 0) = 2 | "
            + "ring(1) = -1",
            // From then on they are two.
            "back(2) = 1 | steps(0) = 2 | set(0, 0, 0, 9, 0) = 10 | slot 2 is [2,1;4,3] | entryAfter(2, 0, 1, 1, 0) = 4 | "
            + "create(2, 5, 4, 1) = 0 | copy(0, 2) = 0 | rows(2) = 2 | ring(2) = 0");
        // The largest matrix, of which nothing stays as it is.
        Sentences.test(4, "Copies a slot, with its original matrix and its log.",
            "typed [1,2,3,4;5,6,7,8;9,10,11,12;13,14,15,16] | parse(0, 0) = 4 | swap(0, false, 0, 3) = 1 | swap(0, false, 1, 2) = 2",
            "scale(0, true, 3, -1, 0) = 3 | create(1, 0, 4, 4) = 1 | copy(0, 1) = 3 | create(0, 0, 4, 4) = 0",
            "slot 1 is [13,14,15,-16;9,10,11,-12;5,6,7,-8;1,2,3,-4] | entryAfter(1, 0, 0, 0, 0) = 1 | entryAfter(1, 0, 1, 3, 0) = 8",
            "entryAfter(1, 0, 2, 0, 0) = 9 | entryAfter(1, 0, 3, 0, 0) = 13 | entryAfter(1, 0, 3, 3, 0) = 16 | back(1) = 2 | back(1) = 1",
            "back(1) = 0 | slot 1 is [1,2,3,4;5,6,7,8;9,10,11,12;13,14,15,16]");
        Sentences.test(4, "- `to`: the slot that is replaced, possibly the same",
            "typed [1,2] | parse(0, 0) = 1 | swap(0, true, 0, 1) = 1 | copy(0, 0) = 1 unchanged | copy(0, 1) = 1 | typed [i] | "
            + "parse(2, 1) = 1 | copy(2, 1) = 0 | ring(1) = 1 | columns(1) = 1 | steps(1) = 0");
        Sentences.test(4, "Returns the number of steps of the log.",
            "create(0, 0, 1, 1) = 1 | copy(0, 1) = 0 | times 199 scale(0, false, 0, -1, 0) | copy(0, 1) = 199 | "
            + "scale(0, false, 0, -1, 0) = 200 | copy(0, 1) = 200 | copy(0, 0) = 200 | steps(1) = 200");
        noSuchSlot(4, NO_SLOT + " (either one)", "copy(#, 0)", "copy(0, #)", "copy(#, #)");
        Sentences.test(4, "Throws `IllegalStateException` if from is empty",
            "copy(0, 1) throws IllegalState | copy(0, 0) throws IllegalState | create(1, 0, 1, 1) = 1 | copy(0, 1) throws IllegalState | "
            + "copy(2, 1) throws IllegalState | copy(1, 0) = 0 | copy(0, 1) = 0");
    }

    private static void multiply() {
        Sentences.test(5, "Puts the product of two matrices into a slot.",
            "typed [1,2,3,4] | parse(0, 0) = 1 | typed [1;2;3;4] | parse(1, 0) = 4 | multiply(0, 1, 2) = 1 | slot 2 is [30] | "
            + "multiply(1, 0, 2) = 4 | slot 2 is [1,2,3,4;2,4,6,8;3,6,9,12;4,8,12,16] | multiply(2, 1, 0) = 1 | slot 0 is [30;60;90;120]",
            "create(2, 0, 1, 1) = 0 | typed [7] | parse(0, 0) = 1 | multiply(0, 0, 2) = 1 | slot 2 is [49]");
        Sentences.test(5, "Its log begins.",
            "typed [1,1;0,1] | parse(0, 0) = 2 | swap(0, false, 0, 1) = 1 | copy(0, 1) = 1 | multiply(0, 0, 1) = 2 | steps(1) = 0 | "
            + "entryAfter(1, 0, 0, 0, 0) = 1 | entryAfter(1, 0, 1, 1, 0) = 2 | multiply(0, 0, 0) = 2 | steps(0) = 0 | "
            + "entryAfter(0, 0, 1, 1, 0) = 2");
        String order = "Each entry is computed as the sum of the products, from the lowest index up; each product and each sum must be in "
            + "range.";
        // The same products: in this order the sums stay in range, in others they do not.
        Sentences.test(5, order, "typed [1,1,1] | parse(0, 0) = 1 | typed [600000000;-600000000;600000000] | parse(1, 0) = 3 | "
            + "multiply(0, 1, 2) = 1 | slot 2 is [600000000] | typed [600000000;600000000;-600000000] | parse(1, 0) = 3 | "
            + "multiply(0, 1, 2) throws Arithmetic",
            "typed [-600000000;600000000;600000000] | parse(1, 0) = 3 | multiply(0, 1, 2) = 1 | slot 2 is [600000000] | "
            + "typed [-600000000;-600000000;600000000] | parse(1, 0) = 3 | multiply(0, 1, 2) throws Arithmetic");
        Sentences.test(5, order, "typed [2] | parse(0, 0) = 1 | typed [500000000] | parse(1, 0) = 1 | multiply(0, 1, 2) = 1 | "
            + "slot 2 is [1000000000] | typed [500000001] | parse(1, 0) = 1 | multiply(0, 1, 2) throws Arithmetic | typed [-500000001] | "
            + "parse(1, 0) = 1 | multiply(0, 1, 2) throws Arithmetic",
            // The product 1000000002 is out of range, though the sum would not be.
            "typed [1,2] | parse(0, 0) = 1 | typed [-1000000000;500000001] | parse(1, 0) = 2 | multiply(0, 1, 2) throws Arithmetic | "
            + "typed [-1000000000;500000000] | parse(1, 0) = 2 | multiply(0, 1, 2) = 1 | slot 2 is [0]",
            "typed [1000000000] | parse(0, 0) = 1 | multiply(0, 0, 2) throws Arithmetic | typed [0,1000000000] | parse(0, 0) = 1 | "
            + "typed [1000000000;1] | parse(1, 0) = 2 | multiply(0, 1, 2) = 1 | slot 2 is [1000000000]");
        Sentences.test(5, order, "typed [100+100i] | parse(0, 1) = 1 | typed [150-150i] | parse(1, 1) = 1 | multiply(0, 1, 2) = 1 | "
            + "slot 2 is [30000] | typed [151-150i] | parse(1, 1) = 1 | multiply(0, 1, 2) throws Arithmetic | typed [150+150i] | "
            + "parse(1, 1) = 1 | multiply(0, 1, 2) = 1 | slot 2 is [30000i]",
            "typed [150+151i] | parse(1, 1) = 1 | multiply(0, 1, 2) throws Arithmetic | typed [1,1] | parse(0, 1) = 1 | typed [30000;1] | "
            + "parse(1, 1) = 2 | multiply(0, 1, 2) throws Arithmetic | typed [30000-30000i;30000i] | parse(1, 1) = 2 | "
            + "multiply(0, 1, 2) = 1 | slot 2 is [30000]");
        Sentences.test(5, order, "typed [x^3] | parse(0, 2) = 1 | typed [x^4] | parse(1, 2) = 1 | multiply(0, 1, 2) = 1 | "
            + "slot 2 is [x^7] | multiply(1, 1, 2) throws Arithmetic | typed [x^4,x^4] | parse(0, 2) = 1 | typed [x^4;x^4] | "
            + "parse(1, 2) = 2 | multiply(0, 1, 2) throws Arithmetic",
            "typed [x^7,1] | parse(0, 2) = 1 | typed [1;x^7] | parse(1, 2) = 2 | multiply(0, 1, 2) = 1 | slot 2 is [0]");
        Sentences.test(5, "- `to`: the slot that is replaced, possibly one of these",
            "typed [1,2;3,4] | parse(0, 0) = 2 | typed [0,1;1,0] | parse(1, 0) = 2 | multiply(0, 1, 0) = 2 | slot 0 is [2,1;4,3] | "
            + "slot 1 is [0,1;1,0] | multiply(0, 1, 1) = 2 | slot 1 is [1,2;3,4] | multiply(1, 1, 1) = 2 | slot 1 is [7,10;15,22] | "
            + "slot 0 is [2,1;4,3]",
            "typed [1;2] | parse(2, 0) = 2 | multiply(0, 2, 2) = 1 | slot 2 is [4;10] | multiply(0, 2, 0) = 1 | slot 0 is [18;46]");
        Sentences.test(5, "Returns the number of columns.",
            "create(0, 0, 4, 1) = 1 | create(1, 0, 1, 4) = 1 | multiply(0, 1, 2) = 4 | rows(2) = 4 | multiply(1, 0, 2) = 1 | rows(2) = 1 | "
            + "create(1, 0, 1, 3) = 0 | multiply(0, 1, 2) = 3");
    }

    private static void multiplyThrows() {
        noSuchSlot(5, NO_SLOT + " (any one)", "multiply(#, 0, 0)", "multiply(0, #, 0)", "multiply(0, 0, #)", "multiply(#, 1, 2)",
            "multiply(#, #, #)");
        String state = "Throws `IllegalStateException` if left or right is empty, they have different rings, or left does not have as many "
            + "columns as right has rows";
        Sentences.test(5, state, "multiply(0, 0, 0) throws IllegalState | create(0, 0, 2, 2) = 1 | multiply(0, 1, 2) throws IllegalState | "
            + "multiply(1, 0, 2) throws IllegalState | multiply(1, 1, 0) throws IllegalState | multiply(0, 0, 2) = 2");
        Sentences.test(5, state, "create(0, 2, 2, 2) = 1 | create(1, 3, 2, 2) = 1 | multiply(0, 1, 2) throws IllegalState | "
            + "multiply(1, 0, 2) throws IllegalState | create(1, 2, 2, 2) = 0 | multiply(0, 1, 2) = 2 | create(1, 0, 2, 2) = 0 | "
            + "multiply(0, 1, 2) throws IllegalState");
        Sentences.test(5, state, "create(0, 0, 2, 3) = 1 | create(1, 0, 2, 3) = 1 | multiply(0, 1, 2) throws IllegalState | "
            + "multiply(0, 0, 0) throws IllegalState | create(1, 0, 4, 2) = 0 | multiply(0, 1, 2) throws IllegalState | "
            + "multiply(1, 0, 2) = 3 | create(1, 0, 3, 4) = 0 | multiply(0, 1, 2) = 4");
        // Of matrices that do not fit together it does not matter how large they are.
        Sentences.test(5, state, "typed [1000000000,1] | parse(0, 0) = 1 | typed [1000000000] | parse(1, 0) = 1 | "
            + "multiply(0, 1, 2) throws IllegalState | multiply(1, 0, 2) throws Arithmetic | typed [30000] | parse(1, 1) = 1 | "
            + "multiply(1, 0, 2) throws IllegalState");
        Sentences.test(5, FAILS, "typed [1,1;1,1] | parse(0, 0) = 2 | typed [1,1;1,1000000000] | parse(1, 0) = 2 | "
            + "multiply(0, 1, 0) throws Arithmetic | multiply(0, 1, 1) throws Arithmetic | multiply(0, 1, 2) throws Arithmetic | "
            + "typed [1,1;1,999999999] | parse(1, 0) = 2 | multiply(0, 1, 2) = 2 | slot 2 is [2,1000000000;2,1000000000]");
    }

    private static void shape() {
        Sentences.test(6, "Returns the ring of a slot.", "create(1, 7, 1, 1) = 1 | ring(1) = 7 | create(1, 0, 1, 1) = 0 | ring(1) = 0");
        Sentences.test(6, "Returns the number of the ring; NONE if the slot is empty.",
            Sentences.each("ring(#) = -1", 0, 1, 2),
            "create(0, 0, 1, 1) = 1 | ring(0) = 0",
            Sentences.each("create(0, #, 1, 1) = 0 | ring(0) = #", 1, 2, 3, 5, 7),
            Sentences.each("ring(#) = -1",
            1, 2));
        noSuchSlot(6, NO_SLOT, "ring(#)");
        Sentences.test(7, "Returns the number of rows of a matrix.",
            "create(0, 0, 1, 4) = 1 | rows(0) = 1 | create(0, 0, 4, 1) = 0 | rows(0) = 4");
        Sentences.test(7, "Returns the number of rows; 0 if the slot is empty.",
            Sentences.each("rows(#) = 0", 0, 1, 2),
            "create(1, 0, 3, 2) = 1 | rows(1) = 3 | rows(0) = 0 | rows(2) = 0");
        noSuchSlot(7, NO_SLOT, "rows(#)");
        Sentences.test(8, "Returns the number of columns of a matrix.",
            "create(0, 0, 1, 4) = 1 | columns(0) = 4 | create(0, 0, 4, 1) = 0 | columns(0) = 1");
        Sentences.test(8, "Returns the number of columns; 0 if the slot is empty.",
            Sentences.each("columns(#) = 0", 0, 1, 2),
            "create(1, 0, 3, 2) = 1 | columns(1) = 2 | columns(0) = 0 | columns(2) = 0");
        noSuchSlot(8, NO_SLOT, "columns(#)");
    }

    private static void entry() {
        Sentences.test(9, "Returns a part of an entry.",
            "typed [1,2;3,4] | parse(0, 0) = 2 | entry(0, 0, 0, 0) = 1 | entry(0, 0, 1, 0) = 2 | entry(0, 1, 0, 0) = 3 | "
            + "entry(0, 1, 1, 0) = 4 | swap(0, false, 0, 1) = 1 | entry(0, 0, 0, 0) = 3");
        Sentences.test(9, "- `part`: 0 for the first part, 1 for the second part",
            "typed [-30000+30000i] | parse(0, 1) = 1 | entry(0, 0, 0, 0) = -30000 | entry(0, 0, 0, 1) = 30000",
            Sentences.each("entry(0, 0, 0, #) throws IllegalArgument",
            -1, 2, 3, Integer.MIN_VALUE, Integer.MAX_VALUE));
        Sentences.test(9, "Returns the part.",
            "typed [-1000000000,1000000000] | parse(0, 0) = 1 | entry(0, 0, 0, 0) = -1000000000 | entry(0, 0, 1, 0) = 1000000000 | "
            + "entry(0, 0, 0, 1) = 0 | typed [6x^7+6] | parse(0, 7) = 1 | entry(0, 0, 0, 0) = 4941264 | entry(0, 0, 0, 1) = 0");
        noSuchSlot(9, NO_SLOT, "entry(#, 0, 0, 0)", "entry(#, 9, 9, 9)");
        Sentences.test(9, EMPTY,
            Sentences.each("entry(#, 0, 0, 0) throws IllegalState | entry(#, 4, -1, 2) throws IllegalState", 0, 1, 2));
        Sentences.test(9, "Throws `IllegalArgumentException` if there is no such row or column, or part is out of range",
            "create(0, 0, 3, 2) = 1 | entry(0, 2, 1, 1) = 0",
            Sentences.each("entry(0, #, 0, 0) throws IllegalArgument", -1, 3, 4,
            Integer.MIN_VALUE, Integer.MAX_VALUE),
            Sentences.each("entry(0, 0, #, 0) throws IllegalArgument", -1, 2, 3, 4, Integer.MIN_VALUE, Integer.MAX_VALUE),
            Sentences.each("entry(0, 0, 0, #) throws IllegalArgument",
            -1, 2));
    }
}
