/** The boundary cases of the promises 20 to 28: systems, invariants and elements. */
final class SystemBoundaries {
    private static final String NO_SLOT = "Throws `IndexOutOfBoundsException` if there is no such slot";
    private static final String EMPTY = "Throws `IllegalStateException` if the slot is empty";
    private static final String FAILS = "Throws `ArithmeticException` if it fails";
    private static final String PART = "- `part`: 0 for the first part, 1 for the second part";
    private static final String LARGE = "typed " + TermsBoundaries.LARGE_IN_BETWEEN + " | parse(0, 0) = 3";
    private static final Object[] NO_PARTS = {-1, 2, 3, Integer.MIN_VALUE, Integer.MAX_VALUE};

    private SystemBoundaries() {
    }

    static void run() {
        solve();
        solveSteps();
        solveThrows();
        kernel();
        invariant();
        order();
        determinant();
        determinantThrows();
        sameSpan();
        areEquivalent();
        quotient();
        gcd();
    }

    private static String system(String matrix, String right, int ring) {
        int rows = right.split(";").length;
        return Sentences.each("typed " + matrix + " | parse(0, #) = " + rows + " | typed " + right + " | parse(1, #) = " + rows, ring);
    }

    private static String solved(String matrix, String right, int ring, String solution) {
        return system(matrix, right, ring) + " | solve(0, 1, 2) = 1 | slot 2 is " + solution;
    }

    private static String unsolved(String matrix, String right, int ring) {
        return system(matrix, right, ring) + " | solve(0, 1, 2) = 0 unchanged";
    }

    private static String failing(String matrix, String right, int ring) {
        return system(matrix, right, ring) + " | solve(0, 1, 2) throws Arithmetic";
    }

    private static void solve() {
        Sentences.test(20, "Solves a system of linear equations A x = b.",
            solved("[2,0;0,3]", "[4;9]", 0, "[2;3]"), "multiply(0, 2, 2) = 1 | slot 2 is [4;9]",
            solved("[1]", "[1000000000]", 0, "[1000000000]"),
            solved("[1,0,0,0;0,1,0,0;0,0,1,0;0,0,0,1]", "[1;2;3;4]", 0, "[1;2;3;4]"));
        Sentences.test(20, "The steps that bring a copy of A to its Smith form are found.", system("[2,4;6,8]", "[2;2]", 0),
            "swap(0, false, 0, 1) = 1 | solve(0, 1, 2) = 1 | slot 0 is [6,8;2,4] | steps(0) = 1",
            solved("[2,3]", "[7]", 0, "[-7;7]"));
        // By the row step with -2 the second entry of c is -1000000000, which is just in range, and then -1000000002.
        Sentences.test(20, "Its row steps are done to a copy of b, which becomes c.",
            solved("[1;2]", "[3;6]", 0, "[3]"), "slot 1 is [3;6] | steps(1) = 0",
            unsolved("[1;2]", "[500000000;0]", 0),
            failing("[1;2]", "[500000001;0]", 0),
            solved("[-1]", "[1000000000]", 0, "[-1000000000]"));
        String divisible = "Let d be the invariants, and r the rank. There is a solution if for each k less than r the entry k of c is "
            + "divisible by d of k, and the entries of c from r on are 0.";
        Sentences.test(20, divisible,
            solved("[3]", "[-3]", 0, "[-1]"),
            unsolved("[3]", "[-4]", 0),
            solved("[3]", "[0]", 0, "[0]"),
            solved("[0]", "[0]", 0, "[0]"),
            unsolved("[0]", "[1]", 0));
        Sentences.test(20, divisible,
            unsolved("[1,0;0,2]", "[1;1]", 0),
            solved("[1,0;0,2]", "[1;2]", 0, "[1;1]"),
            solved("[1,0;0,0]", "[1;0]", 0, "[1;0]"),
            unsolved("[1,0;0,0]", "[1;1]", 0),
            unsolved("[1;0;0;0]", "[5;0;0;1]", 0),
            solved("[1;0;0;0]", "[5;0;0;0]", 0, "[5]"));
        Sentences.test(20, divisible,
            solved("[1+i]", "[2]", 1, "[1-i]"),
            unsolved("[1+i]", "[1]", 1),
            solved("[x+1]", "[x^2+1]", 2, "[x+1]"),
            unsolved("[x+1]", "[x^2]", 2),
            solved("[3]", "[4]", 7, "[6]"));
    }

    private static void solveSteps() {
        Sentences.test(20, "Then y has, for k less than r, the quotient of these, and 0 for the other columns of A;",
            solved("[2,0,0,0]", "[6]", 0, "[3;0;0;0]"),
            solved("[0,0,0;0,0,0]", "[0;0]", 0, "[0;0;0]"),
            solved("[0,0,0,2]", "[6]", 0, "[0;0;0;3]"));
        String back = "and x is computed from y by going through the column steps from the last one to the first one: for kind 3 the "
            + "entries i and j are swapped; for kind 4 f times entry i is added to entry j; for kind 5 entry i is multiplied by f.";
        Sentences.test(20, back,
            solved("[0,2]", "[6]", 0, "[0;3]"),
            solved("[1,4;0,1]", "[9;2]", 0, "[1;2]"),
            // The steps 3,0,1 and 4,1,0,-3 and 3,1,2 make y = 5, 4, 0 into 5, 0, 4 and 0, 5, 4.
            solved("[3,1,0;0,0,2]", "[5;8]", 0, "[0;5;4]"),
            // The largest x, and one more.
            solved("[1,2;0,1]", "[999999998;-1]", 0, "[1000000000;-1]"),
            failing("[1,2;0,1]", "[999999999;-1]", 0));
        Sentences.test(20, "x is put into a slot as a matrix with one column, and its log begins.",
            "create(2, 7, 4, 4) = 1 | swap(2, false, 0, 1) = 1 | " + system("[1,0,0,0]", "[5]", 0),
            "solve(0, 1, 2) = 1 | ring(2) = 0 | rows(2) = 4 | columns(2) = 1 | steps(2) = 0 | entryAfter(2, 0, 0, 0, 0) = 5 | "
            + "back(2) throws IllegalState", system("[1;0;0;0]", "[5;0;0;0]", 0), "solve(0, 1, 2) = 1 | rows(2) = 1 | columns(2) = 1");
        Sentences.test(20, "- `right`: the slot of b, a matrix with one column",
            "create(0, 0, 2, 2) = 1 | create(1, 0, 2, 1) = 1 | solve(0, 1, 2) = 1",
            Sentences.each("create(1, 0, 2, #) = 0 | solve(0, 1, 2) throws IllegalState", 2, 3, 4));
        Sentences.test(20, "- `to`: the slot that is replaced, possibly one of these", system("[2,0;0,2]", "[2;4]", 0),
            "solve(0, 1, 0) = 1 | slot 0 is [1;2] | slot 1 is [2;4]", system("[2,0;0,2]", "[2;4]", 0),
            "solve(0, 1, 1) = 1 | slot 1 is [1;2] | slot 0 is [2,0;0,2]",
            "typed [2;4] | parse(0, 0) = 2 | swap(0, false, 0, 1) = 1 | solve(0, 0, 0) = 1 | slot 0 is [1] | steps(0) = 0");
        Sentences.test(20, "Returns 1; 0 if there is no solution (no slot changes then).", system("[2]", "[4]", 0),
            "scale(0, false, 0, 1, 0) = 1 | scale(1, false, 0, 1, 0) = 1 | solve(0, 1, 2) = 1 | typed [5] | parse(1, 0) = 1 | "
            + "scale(1, true, 0, 1, 0) = 1 | solve(0, 1, 2) = 0 unchanged | solve(0, 1, 1) = 0 unchanged | solve(0, 1, 0) = 0 unchanged | "
            + "solve(1, 0, 0) = 0 unchanged | solve(0, 0, 2) = 1 | slot 2 is [1]");
    }

    private static void solveThrows() {
        MatrixBoundaries.noSuchSlot(20, NO_SLOT + " (any one)", "solve(#, 0, 0)", "solve(0, #, 0)", "solve(0, 0, #)", "solve(#, #, #)",
            "solve(1, 2, #)");
        String state = "Throws `IllegalStateException` if matrix or right is empty, their rings differ, right does not have one column, or "
            + "they do not have equally many rows";
        Sentences.test(20, state, "solve(0, 0, 0) throws IllegalState | create(0, 0, 1, 1) = 1 | solve(0, 1, 2) throws IllegalState | "
            + "solve(1, 0, 2) throws IllegalState | solve(1, 1, 0) throws IllegalState | solve(0, 0, 2) = 1");
        Sentences.test(20, state, "create(0, 3, 1, 1) = 1 | create(1, 5, 1, 1) = 1 | solve(0, 1, 2) throws IllegalState | "
            + "solve(1, 0, 2) throws IllegalState | create(1, 3, 1, 1) = 0 | solve(0, 1, 2) = 1");
        Sentences.test(20, state, "create(0, 0, 2, 2) = 1",
            "create(1, 0, 1, 1) = 1 | solve(0, 1, 2) throws IllegalState",
            Sentences.each("create(1, 0, #, 1) = 0 | solve(0, 1, 2) throws IllegalState", 3, 4),
            "create(1, 0, 2, 1) = 0 | solve(0, 1, 2) = 1 | create(1, 0, 2, 2) = 0 | solve(0, 1, 2) throws IllegalState | "
            + "solve(0, 0, 2) throws IllegalState");
        // They do not fit together, whether the form would fail or not.
        Sentences.test(20, state, LARGE, "create(1, 0, 2, 1) = 1 | solve(0, 1, 2) throws IllegalState | create(1, 1, 3, 1) = 0 | "
            + "solve(0, 1, 2) throws IllegalState | create(1, 0, 3, 2) = 0 | solve(0, 1, 2) throws IllegalState | create(1, 0, 3, 1) = 0 | "
            + "solve(0, 1, 2) throws Arithmetic");
        // In the form, in c (though there is no solution), and in x.
        Sentences.test(20, FAILS, LARGE, "create(1, 0, 3, 1) = 1 | solve(0, 1, 0) throws Arithmetic | solve(0, 1, 1) throws Arithmetic",
            failing(TermsBoundaries.LARGE_IN_BETWEEN, "[0;0;0]", 0),
            failing("[1;3]", "[333333334;0]", 0),
            unsolved("[1;3]", "[333333333;0]", 0),
            failing("[1,1;0,1]", "[1000000000;-1]", 0),
            solved("[1,1;0,1]", "[1000000000;0]", 0, "[1000000000;0]"));
        Sentences.test(20, FAILS, "typed " + TermsBoundaries.SMITH_201 + " | parse(0, 0) = 4 | create(1, 0, 4, 1) = 1 | "
            + "solve(0, 1, 2) throws Arithmetic | typed " + TermsBoundaries.SMITH_200 + " | parse(0, 0) = 4 | solve(0, 1, 2) = 1");
    }

    private static void kernel() {
        Sentences.test(21, "Finds a basis of the solutions of A x = 0.",
            "typed [1,1] | parse(0, 0) = 1 | kernel(0, 1) = 1 | slot 1 is [-1;1] | typed [2,4,6] | parse(0, 0) = 1 | kernel(0, 1) = 2 | "
            + "slot 1 is [-2,-3;1,0;0,1] | multiply(0, 1, 2) = 2 | slot 2 is [0,0]");
        Sentences.test(21, "With the steps and the rank r as for solve(), its elements are computed from the vectors y in which entry k is "
            + "1 and all others are 0, for each k from r to the number of columns of A - 1, as x is computed there.",
            "create(0, 3, 1, 4) = 1 | kernel(0, 1) = 4 | slot 1 is [1,0,0,0;0,1,0,0;0,0,1,0;0,0,0,1]",
            "typed [1,0,0,0] | parse(0, 3) = 1 | kernel(0, 1) = 3 | slot 1 is [0,0,0;1,0,0;0,1,0;0,0,1]",
            "typed [0,0,0,1] | parse(0, 3) = 1 | kernel(0, 1) = 3 | slot 1 is [0,0,1;1,0,0;0,1,0;0,0,0]",
            "typed [1,0,0;0,1,0;0,0,1] | parse(0, 0) = 3 | kernel(0, 1) = 0 unchanged | typed [1,0,0;0,1,0;0,0,0] | parse(0, 0) = 3 | "
            + "kernel(0, 1) = 1 | slot 1 is [0;0;1] | create(0, 0, 4, 1) = 0 | kernel(0, 1) = 1 | slot 1 is [1]");
        String put = "They are put into a slot as the columns of a matrix, in this order, and its log begins; if there are none, no slot "
            + "changes.";
        Sentences.test(21, put, "create(1, 0, 4, 4) = 1 | swap(1, true, 0, 1) = 1 | typed [1,2,3] | parse(0, 5) = 1 | kernel(0, 1) = 2 | "
            + "ring(1) = 5 | rows(1) = 3 | columns(1) = 2 | steps(1) = 0 | slot 1 is [3,2;1,0;0,1] | entryAfter(1, 0, 0, 0, 0) = 3 | "
            + "back(1) throws IllegalState");
        Sentences.test(21, put, "typed [7] | parse(0, 0) = 1 | scale(0, true, 0, 1, 0) = 1 | kernel(0, 1) = 0 unchanged | "
            + "kernel(0, 0) = 0 unchanged | copy(0, 2) = 1 | kernel(0, 2) = 0 unchanged | create(0, 0, 1, 1) = 0 | kernel(0, 2) = 1 | "
            + "slot 2 is [1]");
        Sentences.test(21, "- `to`: the slot that is replaced, possibly the same",
            "typed [1,1] | parse(0, 0) = 1 | swap(0, true, 0, 1) = 1 | kernel(0, 0) = 1 | slot 0 is [-1;1] | steps(0) = 0 | "
            + "kernel(0, 0) = 0 unchanged | kernel(0, 2) = 0 unchanged");
        Sentences.test(21, "Returns how many there are.",
            "create(0, 0, 4, 4) = 1 | kernel(0, 1) = 4 | create(0, 0, 4, 1) = 0 | kernel(0, 1) = 1 | typed [1,2,3,4;2,4,6,8] | "
            + "parse(0, 0) = 2 | kernel(0, 1) = 3 | typed [1,2;3,4;5,6;7,8] | parse(0, 0) = 4 | kernel(0, 1) = 0 unchanged");
        MatrixBoundaries.noSuchSlot(21, NO_SLOT + " (either one)", "kernel(#, 0)", "kernel(0, #)", "kernel(#, #)", "kernel(1, #)");
        Sentences.test(21, "Throws `IllegalStateException` if matrix is empty",
            "kernel(0, 0) throws IllegalState | kernel(0, 1) throws IllegalState | create(1, 0, 1, 1) = 1 | "
            + "kernel(0, 1) throws IllegalState | kernel(2, 1) throws IllegalState | kernel(1, 0) = 1");
        // The form fails; and then the form is in range, but a basis is only just, or not.
        Sentences.test(21, FAILS, LARGE, "scale(0, false, 0, 1, 0) = 1 | kernel(0, 0) throws Arithmetic | kernel(0, 1) throws Arithmetic | "
            + "typed [1,500000000,0;0,1,2] | parse(0, 0) = 2 | kernel(0, 1) = 1 | slot 1 is [1000000000;-2;1] | "
            + "typed [1,500000001,0;0,1,2] | parse(0, 0) = 2 | kernel(0, 1) throws Arithmetic | kernel(0, 0) throws Arithmetic");
        Sentences.test(21, FAILS, "typed " + TermsBoundaries.SMITH_201 + " | parse(0, 0) = 4 | kernel(0, 1) throws Arithmetic");
    }

    private static void invariant() {
        Sentences.test(22, "Returns a part of an invariant of a matrix.",
            "typed [2,4;6,8] | parse(0, 0) = 2 | swap(0, false, 0, 1) = 1 | invariant(0, 0, 0) = 2 | invariant(0, 1, 0) = 4 | "
            + "invariant(0, 1, 1) = 0");
        String index = "- `index`: the index of the invariant, from 0, less than the numbers of rows and columns";
        for (int size = 0; size < 16; size++) {
            int least = Math.min(size / 4, size % 4);
            Sentences.test(22, index, "create(0, 0, " + (size / 4 + 1) + ", " + (size % 4 + 1) + ") = 1 | invariant(0, 0, 0) = 0 | "
                + "invariant(0, " + least + ", 0) = 0",
                Sentences.each("invariant(0, #, 0) throws IllegalArgument", -1, least + 1, 4,
                Integer.MIN_VALUE, Integer.MAX_VALUE));
        }
        Sentences.test(22, PART, "typed [2-i] | parse(0, 1) = 1 | invariant(0, 0, 0) = 1 | invariant(0, 0, 1) = 2",
            Sentences.each("invariant(0, 0, #) throws IllegalArgument",
            NO_PARTS));
        Sentences.test(22, "Returns the part.",
            "typed [-1000000000] | parse(0, 0) = 1 | invariant(0, 0, 0) = 1000000000 | invariant(0, 0, 1) = 0 | typed [6x^7+6] | "
            + "parse(0, 7) = 1 | invariant(0, 0, 0) = 823544 | typed [1,0;0,0] | parse(0, 1) = 2 | invariant(0, 1, 0) = 0 | "
            + "invariant(0, 1, 1) = 0");
        MatrixBoundaries.noSuchSlot(22, NO_SLOT, "invariant(#, 0, 0)", "invariant(#, 9, 9)");
        Sentences.test(22, EMPTY,
            Sentences.each("invariant(#, 0, 0) throws IllegalState | invariant(#, -1, 2) throws IllegalState", 0, 1,
            2));
        Sentences.test(22, "Throws `IllegalArgumentException` if index or part is out of range", LARGE,
            Sentences.each("invariant(0, #, 0) throws IllegalArgument",
            -1, 3, 4),
                Sentences.each("invariant(0, 0, #) throws IllegalArgument", NO_PARTS), "invariant(0, 2, 1) throws Arithmetic");
        Sentences.test(22, FAILS, LARGE,
            Sentences.each("invariant(0, #, 0) throws Arithmetic | invariant(0, #, 1) throws Arithmetic", 0, 1,
            2), "typed [31622,0;0,31623] | parse(0, 0) = 2 | invariant(0, 1, 0) = 999982506 | typed [31623,0;0,31624] | parse(0, 0) = 2 | "
            + "invariant(0, 0, 0) throws Arithmetic");
        Sentences.test(22, FAILS, "typed " + TermsBoundaries.SMITH_201 + " | parse(0, 0) = 4 | invariant(0, 0, 0) throws Arithmetic | "
            + "typed " + TermsBoundaries.SMITH_200 + " | parse(0, 0) = 4 | invariant(0, 0, 0) = 1");
    }

    private static void order() {
        Sentences.test(23, "Returns the number of elements of the cokernel of a matrix, that is, of the module of all columns with its "
            + "number of rows modulo the span of its columns:",
            "typed [2,0,1;0,3,1] | parse(0, 0) = 2 | order(0) = 1 | typed [2,0;0,3] | parse(0, 0) = 2 | order(0) = 6 | "
            + "swap(0, true, 0, 1) = 1 | order(0) = 6");
        String product = "the product of the absolute values (integers), of the sizes (Gaussian integers), or of p^degree (polynomials) of "
            + "its invariants.";
        Sentences.test(23, product, "typed [-7] | parse(0, 0) = 1 | order(0) = 7 | typed [1] | parse(0, 0) = 1 | order(0) = 1 | "
            + "typed [2-i] | parse(0, 1) = 1 | order(0) = 5 | typed [i] | parse(0, 1) = 1 | order(0) = 1 | typed [30000+30000i] | "
            + "parse(0, 1) = 1 | order(0) = 1800000000",
            Sentences.each("typed [1] | parse(0, #) = 1 | order(0) = 1 | typed [x] | parse(0, #) = 1 | order(0) = #", 2, 3, 5, 7),
            "typed [x^7] | parse(0, 2) = 1 | order(0) = 128 | typed [6x^7+1] | parse(0, 7) = 1 | order(0) = 823543 | typed [6] | "
            + "parse(0, 7) = 1 | order(0) = 1");
        Sentences.test(23, "Returns the number; 0 if it is infinite, which is if the rank is less than the number of rows.",
            "create(0, 0, 1, 1) = 1 | order(0) = 0 | typed [1;2] | parse(0, 0) = 2 | order(0) = 0 | typed [1,2] | parse(0, 0) = 1 | "
            + "order(0) = 1 | typed [1,2;2,4] | parse(0, 0) = 2 | order(0) = 0 | create(0, 7, 4, 4) = 0 | order(0) = 0",
            // However large the invariants are that are not 0.
            "typed [1000000000,0,0,0;0,1000000000,0,0;0,0,1000000000,0;0,0,0,0] | parse(0, 0) = 4 | order(0) = 0");
        MatrixBoundaries.noSuchSlot(23, NO_SLOT, "order(#)");
        Sentences.test(23, EMPTY,
            Sentences.each("order(#) throws IllegalState", 0, 1, 2), "create(1, 0, 1, 1) = 1",
            Sentences.each("order(#) throws IllegalState",
            0, 2));
        String fails = FAILS + ", or the number is above 1000000000000000000";
        Sentences.test(23, fails, LARGE, "order(0) throws Arithmetic | typed [1000000000,0;0,1000000000] | parse(0, 0) = 2 | "
            + "order(0) = 1000000000000000000 | typed [1000000,0,0;0,1000000,0;0,0,1000000] | parse(0, 0) = 3 | "
            + "order(0) = 1000000000000000000 | typed [1000001,0,0;0,1000001,0;0,0,1000001] | parse(0, 0) = 3 | order(0) throws Arithmetic",
            "typed [31622,0,0,0;0,31622,0,0;0,0,31622,0;0,0,0,31622] | parse(0, 0) = 4 | order(0) = 999901770412381456 | "
            + "typed [31623,0,0,0;0,31623,0,0;0,0,31623,0;0,0,0,31623] | parse(0, 0) = 4 | order(0) throws Arithmetic",
            "typed [1,0,0;0,1000000000,0;0,0,1000000000] | parse(0, 0) = 3 | order(0) = 1000000000000000000 | "
            + "typed [2,0,0;0,1000000000,0;0,0,1000000000] | parse(0, 0) = 3 | order(0) throws Arithmetic");
        // 2 to the 66 is 0 as a long, and 2 to the 64 is, too.
        Sentences.test(23, fails, "typed [4194304,0,0;0,4194304,0;0,0,4194304] | parse(0, 0) = 3 | order(0) throws Arithmetic | "
            + "typed [65536,0,0,0;0,65536,0,0;0,0,65536,0;0,0,0,65536] | parse(0, 0) = 4 | order(0) throws Arithmetic | "
            + "typed [1000000000,0,0,0;0,1000000000,0,0;0,0,1000000000,0;0,0,0,1000000000] | parse(0, 0) = 4 | order(0) throws Arithmetic");
        Sentences.test(23, fails, "typed [30000+10000i,0;0,30000+10000i] | parse(0, 1) = 2 | order(0) = 1000000000000000000 | "
            + "typed [30000+10001i,0;0,30000+10001i] | parse(0, 1) = 2 | order(0) throws Arithmetic | "
            + "typed [30000+30000i,0;0,30000+30000i] | parse(0, 1) = 2 | order(0) throws Arithmetic",
            "typed [x^7,0,0;0,x^7,0;0,0,x^7] | parse(0, 7) = 3 | order(0) = 558545864083284007 | "
            + "typed [x,0,0,0;0,x^7,0,0;0,0,x^7,0;0,0,0,x^7] | parse(0, 7) = 4 | order(0) throws Arithmetic | "
            + "typed [x^4,0,0,0;0,x^7,0,0;0,0,x^7,0;0,0,0,x^7] | parse(0, 5) = 4 | order(0) = 298023223876953125 | "
            + "typed [x^5,0,0,0;0,x^7,0,0;0,0,x^7,0;0,0,0,x^7] | parse(0, 5) = 4 | order(0) throws Arithmetic");
        Sentences.test(23, fails, "typed " + TermsBoundaries.SMITH_201 + " | parse(0, 0) = 4 | order(0) throws Arithmetic | typed " + TermsBoundaries.SMITH_200 + " | "
            + "parse(0, 0) = 4 | order(0) = 0");
    }

    private static void determinant() {
        Sentences.test(24, "Returns a part of the determinant of a matrix.",
            "typed [1,2;3,4] | parse(0, 0) = 2 | determinant(0, 0) = -2 | swap(0, false, 0, 1) = 1 | determinant(0, 0) = 2 | "
            + "typed [1+i,2;3,4i] | parse(0, 1) = 2 | determinant(0, 0) = -10 | determinant(0, 1) = 4");
        Sentences.test(24, "It is 0 if the rank, as found by the Hermite form, is less than the number of rows.",
            "create(0, 0, 1, 1) = 1 | determinant(0, 0) = 0 | create(0, 0, 4, 4) = 0 | determinant(0, 0) = 0 | determinant(0, 1) = 0 | "
            + "typed [1,2;2,4] | parse(0, 0) = 2 | determinant(0, 0) = 0 | typed [1,1;1,1] | parse(0, 7) = 2 | determinant(0, 0) = 0",
            // Though 1000000000 times 1000000000 would be out of range.
            "typed [1000000000,0,0;0,1000000000,0;0,0,0] | parse(0, 0) = 3 | determinant(0, 0) = 0");
        String multiplied = "Otherwise the entries of the Hermite form with equal row and column are multiplied, in ascending order of the "
            + "rows;";
        Sentences.test(24, multiplied, "typed [1000000000] | parse(0, 0) = 1 | determinant(0, 0) = 1000000000 | typed [50000,0;0,20000] | "
            + "parse(0, 0) = 2 | determinant(0, 0) = 1000000000 | typed [50000,0;0,20001] | parse(0, 0) = 2 | "
            + "determinant(0, 0) throws Arithmetic | typed [1000,0,0;0,1000,0;0,0,1000] | parse(0, 0) = 3 | determinant(0, 0) = 1000000000",
            "typed [1000,0,0;0,1000,0;0,0,1001] | parse(0, 0) = 3 | determinant(0, 0) throws Arithmetic | typed [2,9;0,3] | "
            + "parse(0, 0) = 2 | determinant(0, 0) = 6 | typed [65536,0;0,65536] | parse(0, 0) = 2 | determinant(0, 0) throws Arithmetic");
        Sentences.test(24, multiplied, "typed [100,0;0,300] | parse(0, 1) = 2 | determinant(0, 0) = 30000 | typed [100,0;0,300+i] | "
            + "parse(0, 1) = 2 | determinant(0, 1) = 100 | typed [100,0;0,301] | parse(0, 1) = 2 | determinant(0, 0) throws Arithmetic | "
            + "determinant(0, 1) throws Arithmetic",
            "typed [x^4,0;0,x^3] | parse(0, 2) = 2 | determinant(0, 0) = 128 | typed [x^4,0;0,x^4] | parse(0, 2) = 2 | "
            + "determinant(0, 0) throws Arithmetic | determinant(0, 1) throws Arithmetic");
        String signs = "then the product is multiplied by -1 for each step of kind 0, and by the inverse of f for each step of kind 2 that "
            + "led to this form.";
        Sentences.test(24, signs, "typed [0,1;1,0] | parse(0, 0) = 2 | determinant(0, 0) = -1 | typed [0,1,0;0,0,1;1,0,0] | "
            + "parse(0, 0) = 3 | determinant(0, 0) = 1 | typed [0,0,0,1;0,0,1,0;0,1,0,0;1,0,0,0] | parse(0, 0) = 4 | "
            + "determinant(0, 0) = 1 | typed [-1000000000] | parse(0, 0) = 1 | determinant(0, 0) = -1000000000 | typed [-1,0;0,-1] | "
            + "parse(0, 0) = 2 | determinant(0, 0) = 1",
            "typed [0,1;1,0] | parse(0, 2) = 2 | determinant(0, 0) = 1 | typed [0,1;1,0] | parse(0, 7) = 2 | determinant(0, 0) = 6 | "
            + "typed [0,1;1,0] | parse(0, 1) = 2 | determinant(0, 0) = -1 | determinant(0, 1) = 0",
            // A full log of swaps and factors in the slot itself does not count.
            "typed [3] | parse(0, 0) = 1 | times 200 scale(0, false, 0, -1, 0) | determinant(0, 0) = 3");
        Sentences.test(24, signs, "typed [i] | parse(0, 1) = 1 | determinant(0, 0) = 0 | determinant(0, 1) = 1 | typed [-i] | "
            + "parse(0, 1) = 1 | determinant(0, 1) = -1 | typed [-1] | parse(0, 1) = 1 | determinant(0, 0) = -1 | typed [30000-30000i] | "
            + "parse(0, 1) = 1 | determinant(0, 0) = 30000 | determinant(0, 1) = -30000",
            Sentences.each("typed [#] | parse(0, 7) = 1 | "
            + "determinant(0, 0) = #", 1, 2, 3, 4, 5, 6),
            "typed [3x^7+5] | parse(0, 7) = 1 | determinant(0, 0) = 2470634 | typed [2,0;0,3] | parse(0, 5) = 2 | determinant(0, 0) = 1 | "
            + "typed [3,0;0,3] | parse(0, 5) = 2 | determinant(0, 0) = 4");
        Sentences.test(24, PART, "typed [2-5i] | parse(0, 1) = 1 | determinant(0, 0) = 2 | determinant(0, 1) = -5",
            Sentences.each("determinant(0, #) throws IllegalArgument",
            NO_PARTS));
        Sentences.test(24, "Returns the part.",
            "typed [7] | parse(0, 0) = 1 | determinant(0, 0) = 7 | determinant(0, 1) = 0 | typed [0] | parse(0, 1) = 1 | "
            + "determinant(0, 0) = 0 | determinant(0, 1) = 0");
    }

    private static void determinantThrows() {
        MatrixBoundaries.noSuchSlot(24, NO_SLOT, "determinant(#, 0)", "determinant(#, 9)");
        String state = "Throws `IllegalStateException` if the slot is empty, or the numbers of rows and columns differ";
        Sentences.test(24, state,
            Sentences.each("determinant(#, 0) throws IllegalState | determinant(#, 2) throws IllegalState", 0, 1, 2),
            Sentences.each("create(0, 0, #) = 1 | determinant(0, 0) throws IllegalState | determinant(0, 2) throws IllegalState", "1, 2"),
            Sentences.each("create(0, 0, #) = 0 | determinant(0, 0) throws IllegalState | determinant(0, -1) throws IllegalState", "2, 1",
            "3, 4", "4, 3", "1, 4", "4, 1"),
            Sentences.each("create(0, 0, #, #) = 0 | determinant(0, 0) = 0", 1, 2, 3, 4),
            "typed [1,1000000000;2,-1000000000;0,1] | parse(0, 0) = 3 | determinant(0, 0) throws IllegalState");
        Sentences.test(24, "Throws `IllegalArgumentException` if part is out of range", LARGE,
            Sentences.each("determinant(0, #) throws IllegalArgument",
            NO_PARTS), "determinant(0, 0) throws Arithmetic | determinant(0, 1) throws Arithmetic");
        Sentences.test(24, FAILS, LARGE, "determinant(0, 0) throws Arithmetic | typed [1,500000000;1,-500000000] | parse(0, 0) = 2 | "
            + "determinant(0, 0) = -1000000000 | typed [1,500000000;1,-500000001] | parse(0, 0) = 2 | determinant(0, 0) throws Arithmetic");
        Sentences.test(24, FAILS, "typed " + TermsBoundaries.HERMITE_201 + " | parse(0, 0) = 4 | determinant(0, 0) throws Arithmetic | "
            + "typed " + TermsBoundaries.HERMITE_200 + " | parse(0, 0) = 4 | determinant(0, 0) = 0");
    }

    private static void sameSpan() {
        String span = "Tells whether the rows of two matrices span the same module: whether their Hermite forms have the same rows, "
            + "without rows of zeros.";
        Sentences.test(25, span, "typed [1,2] | parse(0, 0) = 1 | typed [2,4;-1,-2;0,0;3,6] | parse(1, 0) = 4 | sameSpan(0, 1) = 1 | "
            + "sameSpan(1, 0) = 1 | typed [2,4] | parse(1, 0) = 1 | sameSpan(0, 1) = 0 | sameSpan(1, 0) = 0 | typed [1,2;0,1] | "
            + "parse(1, 0) = 2 | sameSpan(0, 1) = 0 | sameSpan(1, 0) = 0 | typed [1,3] | parse(1, 0) = 1 | sameSpan(0, 1) = 0");
        Sentences.test(25, span, "create(0, 0, 1, 3) = 1 | create(1, 0, 4, 3) = 1 | sameSpan(0, 1) = 1 | set(1, 3, 2, 1, 0) = 0 | "
            + "sameSpan(0, 1) = 0 | sameSpan(1, 0) = 0 | typed [1,0;0,1] | parse(0, 0) = 2 | typed [1,1;0,1;1,0] | parse(1, 0) = 3 | "
            + "sameSpan(0, 1) = 1 | swap(1, true, 0, 1) = 1 | sameSpan(0, 1) = 1 | typed [2i,0] | parse(0, 1) = 1 | typed [2,0] | "
            + "parse(1, 1) = 1 | sameSpan(0, 1) = 1");
        Sentences.test(25, "- `other`: another slot, or the same",
            "typed [3,5;7,9] | parse(0, 0) = 2 | sameSpan(0, 0) = 1 | create(1, 2, 1, 1) = 1 | sameSpan(1, 1) = 1");
        String answers = "Returns true if they do; false also if the rings or the numbers of columns differ.";
        Sentences.test(25, answers, "create(0, 0, 2, 2) = 1 | create(1, 1, 2, 2) = 1 | sameSpan(0, 1) = 0 | sameSpan(1, 0) = 0 | "
            + "create(1, 0, 2, 3) = 0 | sameSpan(0, 1) = 0 | sameSpan(1, 0) = 0 | create(1, 0, 2, 1) = 0 | sameSpan(0, 1) = 0 | "
            + "sameSpan(1, 0) = 0 | create(1, 0, 3, 2) = 0 | sameSpan(0, 1) = 1 | sameSpan(1, 0) = 1");
        MatrixBoundaries.noSuchSlot(25, NO_SLOT + " (either one)", "sameSpan(#, 0)", "sameSpan(0, #)", "sameSpan(#, #)");
        Sentences.test(25, NO_SLOT + " (either one)", "sameSpan(0, 3) throws IndexOutOfBounds | sameSpan(-1, 0) throws IndexOutOfBounds");
        Sentences.test(25, "Throws `IllegalStateException` if a slot is empty",
            "sameSpan(0, 0) throws IllegalState | sameSpan(0, 1) throws IllegalState | create(0, 0, 1, 1) = 1 | "
            + "sameSpan(0, 1) throws IllegalState | sameSpan(1, 0) throws IllegalState | sameSpan(2, 2) throws IllegalState | "
            + "create(1, 0, 1, 1) = 1 | sameSpan(0, 1) = 1");
        String fails = FAILS + " (not if the rings or the numbers of columns differ)";
        Sentences.test(25, fails, LARGE, "sameSpan(0, 0) throws Arithmetic | create(1, 0, 1, 3) = 1 | sameSpan(0, 1) throws Arithmetic | "
            + "sameSpan(1, 0) throws Arithmetic | create(1, 0, 3, 4) = 0 | sameSpan(0, 1) = 0 | sameSpan(1, 0) = 0 | "
            + "create(1, 0, 3, 2) = 0 | sameSpan(0, 1) = 0",
            Sentences.each("create(1, #, 3, 3) = 0 | sameSpan(0, 1) = 0 | "
            + "sameSpan(1, 0) = 0", 1, 2, 7),
            "sameSpan(0, 2) throws IllegalState | sameSpan(2, 0) throws IllegalState");
    }

    private static void areEquivalent() {
        String same = "Tells whether two matrices are equivalent: whether they have the same ring, equally many rows and columns, and the "
            + "same invariants.";
        Sentences.test(26, same, "typed [2,0;0,3] | parse(0, 0) = 2 | typed [1,0;0,6] | parse(1, 0) = 2 | areEquivalent(0, 1) = 1 | "
            + "areEquivalent(1, 0) = 1 | typed [1,0;0,5] | parse(1, 0) = 2 | areEquivalent(0, 1) = 0 | areEquivalent(1, 0) = 0 | "
            + "typed [1,0;0,0] | parse(1, 0) = 2 | areEquivalent(0, 1) = 0 | create(1, 0, 2, 2) = 0 | areEquivalent(0, 1) = 0 | "
            + "create(0, 0, 2, 2) = 0 | areEquivalent(0, 1) = 1");
        Sentences.test(26, same, "typed [0,-1] | parse(0, 0) = 1 | typed [1,0] | parse(1, 0) = 1 | areEquivalent(0, 1) = 1 | typed [1;0] | "
            + "parse(1, 0) = 2 | areEquivalent(0, 1) = 0 | areEquivalent(1, 0) = 0 | typed [1,0;0,0] | parse(1, 0) = 2 | "
            + "areEquivalent(0, 1) = 0 | typed [1] | parse(1, 0) = 1 | areEquivalent(0, 1) = 0 | typed [1,0] | parse(1, 1) = 1 | "
            + "areEquivalent(0, 1) = 0 | areEquivalent(1, 0) = 0",
            "typed [1,0] | parse(0, 2) = 1 | typed [1,0] | parse(1, 3) = 1 | areEquivalent(0, 1) = 0 | typed [2x,0] | parse(0, 3) = 1 | "
            + "typed [0,x] | parse(1, 3) = 1 | areEquivalent(0, 1) = 1 | typed [1+i] | parse(0, 1) = 1 | typed [1-i] | parse(1, 1) = 1 | "
            + "areEquivalent(0, 1) = 1 | typed [2+i] | parse(0, 1) = 1 | typed [1+2i] | parse(1, 1) = 1 | areEquivalent(0, 1) = 0");
        Sentences.test(26, "- `other`: another slot, or the same",
            "typed [3,5;7,9] | parse(0, 0) = 2 | areEquivalent(0, 0) = 1 | create(1, 2, 1, 1) = 1 | areEquivalent(1, 1) = 1");
        Sentences.test(26, "Returns true if they are.",
            "typed [1,0,0,0;0,1,0,0;0,0,1,0;0,0,0,2] | parse(0, 0) = 4 | typed [-2,0,0,0;0,1,0,0;0,0,1,0;0,0,0,1] | parse(1, 0) = 4 | "
            + "areEquivalent(0, 1) = 1 | set(1, 3, 3, 3, 0) = 1 | areEquivalent(0, 1) = 0");
        MatrixBoundaries.noSuchSlot(26, NO_SLOT + " (either one)", "areEquivalent(#, 0)", "areEquivalent(0, #)", "areEquivalent(#, #)");
        Sentences.test(26, "Throws `IllegalStateException` if a slot is empty",
            "areEquivalent(0, 0) throws IllegalState | areEquivalent(0, 1) throws IllegalState | create(0, 0, 1, 1) = 1 | "
            + "areEquivalent(0, 1) throws IllegalState | areEquivalent(1, 0) throws IllegalState | "
            + "areEquivalent(2, 2) throws IllegalState | create(1, 0, 1, 1) = 1 | areEquivalent(0, 1) = 1");
        String fails = FAILS + " (not if the rings or the numbers of rows or columns differ)";
        Sentences.test(26, fails, LARGE, "areEquivalent(0, 0) throws Arithmetic | create(1, 0, 3, 3) = 1 | "
            + "areEquivalent(0, 1) throws Arithmetic | areEquivalent(1, 0) throws Arithmetic",
            Sentences.each("create(1, 0, #) = 0 | "
            + "areEquivalent(0, 1) = 0 | areEquivalent(1, 0) = 0", "3, 2", "3, 4", "2, 3", "4, 3"),
            Sentences.each("create(1, #, 3, 3) = 0 | "
            + "areEquivalent(0, 1) = 0 | areEquivalent(1, 0) = 0", 1, 2, 7),
            "areEquivalent(0, 2) throws IllegalState | areEquivalent(2, 0) throws IllegalState");
    }

    private static void quotient() {
        Sentences.test(27, "Returns a part of the quotient of two integers or polynomials, or of two Gaussian integers with the second "
            + "parts 0.", "quotient(0, -1000000000, 3, 0) = -333333334 | quotient(1, -30000, 7, 0) = -4286 | "
            + "quotient(7, 5764800, 8, 0) = 720600 | quotient(3, 6560, 6560, 0) = 1 | quotient(2, 1, 255, 0) = 0");
        Sentences.test(27, "- `a`: the first part of the dividend; its second part is 0",
            "quotient(0, 1000000000, 1, 0) = 1000000000 | quotient(0, -1000000000, 1, 0) = -1000000000 | quotient(0, 0, 1, 0) = 0 | "
            + "quotient(1, 30000, 1, 0) = 30000 | quotient(1, -30000, 1, 0) = -30000 | quotient(2, 255, 1, 0) = 255 | "
            + "quotient(2, 0, 1, 0) = 0");
        Sentences.test(27, "- `b`: the first part of the divisor; its second part is 0",
            "quotient(0, 7, 1000000000, 0) = 0 | quotient(0, -7, -1000000000, 0) = 1 | quotient(0, 7, -1, 0) = -7 | "
            + "quotient(1, 7, 30000, 0) = 0 | quotient(1, 7, -1, 0) = -7 | quotient(2, 7, 255, 0) = 0 | quotient(2, 7, 1, 0) = 7");
        Sentences.test(27, PART,
            Sentences.each("quotient(#, 6, 4, 1) = 0", 0, 1, 7), "quotient(0, 6, 4, 0) = 1",
            Sentences.each("quotient(0, 6, 4, #) throws IllegalArgument",
            NO_PARTS), Sentences.each("quotient(1, 6, 4, #) throws IllegalArgument", NO_PARTS));
        Sentences.test(27, "Returns the part.",
            "quotient(0, 1000000000, -1, 0) = -1000000000 | quotient(0, 1000000000, -1, 1) = 0 | quotient(1, 30000, -1, 0) = -30000 | "
            + "quotient(1, 30000, -1, 1) = 0");
        String argument = "Throws `IllegalArgumentException` if there is no such ring, a or b is not in range, or part is out of range";
        Sentences.test(27, argument,
            Sentences.each("quotient(#, 1, 1, 0) throws IllegalArgument | "
            + "quotient(#, 1, 0, 0) throws IllegalArgument", -1, 4, 6, 8, Integer.MIN_VALUE, Integer.MAX_VALUE),
            Sentences.each("quotient(0, #, 1, 0) throws IllegalArgument | "
            + "quotient(0, 1, #, 0) throws IllegalArgument | quotient(0, #, 0, 0) throws IllegalArgument", -1000000001, 1000000001),
            Sentences.each("quotient(1, #, 1, 0) throws IllegalArgument | quotient(1, 1, #, 0) throws IllegalArgument | "
            + "quotient(1, #, 0, 0) throws IllegalArgument", -30001, 30001),
            Sentences.each("quotient(5, #, 1, 0) throws IllegalArgument | "
            + "quotient(5, 1, #, 0) throws IllegalArgument | quotient(5, #, 0, 0) throws IllegalArgument", -1, 390625),
            Sentences.each("quotient(0, 1, 1, #) throws IllegalArgument | "
            + "quotient(0, 1, 0, #) throws IllegalArgument", NO_PARTS));
        Sentences.test(27, "Throws `ArithmeticException` if b is 0",
            Sentences.each("quotient(#, 1, 0, 0) throws Arithmetic | "
            + "quotient(#, 0, 0, 1) throws Arithmetic | quotient(#, 1, 1, 0) = 1", 0, 1, 2, 3, 5, 7),
            "quotient(0, 1000000000, 0, 0) throws Arithmetic | quotient(7, 5764800, 0, 0) throws Arithmetic");
    }

    private static void gcd() {
        Sentences.test(28, "Returns a part of the greatest common divisor of two elements:",
            "gcd(0, 12, 0, 18, 0, 0) = 6 | gcd(0, -12, 0, -18, 0, 0) = 6 | gcd(1, 5, 0, 3, 1, 0) = 1 | gcd(1, 5, 0, 3, 1, 1) = 2 | "
            + "gcd(2, 5, 0, 6, 0, 0) = 3");
        // Two numbers of Fibonacci take the most turns.
        Sentences.test(28, "as long as b is not 0, a and b become b and the remainder of a and b;",
            "gcd(0, 701408733, 0, 433494437, 0, 0) = 1 | gcd(0, -433494437, 0, 701408733, 0, 0) = 1 | gcd(0, 5, 0, 0, 0, 0) = 5 | "
            + "gcd(0, 0, 0, 5, 0, 0) = 5 | gcd(0, 5, 0, 5, 0, 0) = 5 | gcd(0, 1000000000, 0, 999999999, 0, 0) = 1 | "
            + "gcd(0, 1000000000, 0, -1000000000, 0, 0) = 1000000000",
            "gcd(1, 30000, 30000, 30000, -30000, 0) = 30000 | gcd(1, 30000, 29999, 29999, 30000, 0) = 1 | "
            + "gcd(7, 5764800, 0, 5764799, 0, 0) = 1 | gcd(7, 823543, 0, 117649, 0, 0) = 117649");
        Sentences.test(28, "the result is the product of a and its normalizer, or 0 if a is 0.",
            Sentences.each("gcd(#, 0, 0, 0, 0, 0) = 0 | "
            + "gcd(#, 0, 0, 0, 0, 1) = 0", 0, 1, 2, 3, 5, 7),
            "gcd(0, -5, 0, 0, 0, 0) = 5 | gcd(0, -1000000000, 0, 0, 0, 0) = 1000000000 | gcd(1, 0, -5, 0, 0, 0) = 5 | "
            + "gcd(1, 0, -5, 0, 0, 1) = 0 | gcd(1, 0, 5, 0, 0, 0) = 5 | gcd(1, -5, 0, 0, 0, 0) = 5",
            "gcd(1, -2, 1, 0, 0, 0) = 1 | gcd(1, -2, 1, 0, 0, 1) = 2 | gcd(1, 30000, -30000, 0, 0, 0) = 30000 | "
            + "gcd(1, 30000, -30000, 0, 0, 1) = 30000 | gcd(7, 4941258, 0, 0, 0, 0) = 823543 | gcd(7, 6, 0, 0, 0, 0) = 1 | "
            + "gcd(7, 0, 0, 6, 0, 0) = 1");
        Sentences.test(28, PART, "gcd(1, 2, 1, 0, 0, 0) = 2 | gcd(1, 2, 1, 0, 0, 1) = 1",
            Sentences.each("gcd(1, 2, 1, 0, 0, #) throws IllegalArgument",
            NO_PARTS));
        Sentences.test(28, "Returns the part.",
            "gcd(0, 7, 0, 0, 0, 0) = 7 | gcd(0, 7, 0, 0, 0, 1) = 0 | gcd(3, 6560, 0, 6560, 0, 0) = 3280 | gcd(3, 6560, 0, 6560, 0, 1) = 0");
        String argument = "Throws `IllegalArgumentException` if there is no such ring, a or b is not an element of it that is in range, or "
            + "part is out of range";
        Sentences.test(28, argument,
            Sentences.each("gcd(#, 1, 0, 1, 0, 0) throws IllegalArgument", -1, 4, 6, 8, Integer.MIN_VALUE,
            Integer.MAX_VALUE),
                Sentences.each("gcd(0, #, 1, 0, 0) throws IllegalArgument", "1000000001, 0", "-1000000001, 0", "1, 1",
            "1, -1"),
            Sentences.each("gcd(0, 1, 0, #, 0) throws IllegalArgument", "1000000001, 0", "-1000000001, 0", "1, 1", "1, -1"));
        Sentences.test(28, argument,
            Sentences.each("gcd(1, #, 1, 0, 0) throws IllegalArgument", "30001, 0", "-30001, 0", "0, 30001",
            "0, -30001"),
            Sentences.each("gcd(1, 1, 0, #, 0) throws IllegalArgument", "30001, 0", "-30001, 0", "0, 30001", "0, -30001"),
            Sentences.each("gcd(3, #, 1, 0, 0) throws IllegalArgument", "6561, 0", "-1, 0", "1, 1", "1, -1"),
            Sentences.each("gcd(3, 1, 0, #, 0) throws IllegalArgument",
            "6561, 0", "-1, 0", "1, 1", "1, -1"),
            Sentences.each("gcd(0, 0, 0, 0, 0, #) throws IllegalArgument", NO_PARTS));
    }
}
