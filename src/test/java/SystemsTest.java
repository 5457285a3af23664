/** Promises 20 to 26: systems and invariants. */
public final class SystemsTest {
    public static void main(String[] arguments) {
        solve();
        solveFails();
        kernel();
        invariant();
        order();
        determinant();
        sameSpan();
        areEquivalent();
        Script.finish();
    }

    private static void solve() {
        Script.run("20 solve", "typed [2,0;0,3] | parse(0, 0) = 2 | typed [4;9] | parse(1, 0) = 2 | solve(0, 1, 2) = 1 | slot 2 is [2;3]",
            "steps(2) = 0 | entryAfter(2, 0, 1, 0, 0) = 3 | slot 0 is [2,0;0,3] | steps(0) = 0 | slot 1 is [4;9] | steps(1) = 0",
            "typed [5;9] | parse(1, 0) = 2 | solve(0, 1, 2) = 0 | slot 2 is [2;3] | typed [-4;-9] | parse(1, 0) = 2 | solve(0, 1, 2) = 1 | slot 2 is [-2;-3]");
        // The Smith form comes by 4,1,0,-1 and 3,0,1 and 4,1,0,-2; y is 7, 0.
        Script.run("20 solve, the very solution", "typed [2,3] | parse(0, 0) = 1 | typed [7] | parse(1, 0) = 1 | solve(0, 1, 0) = 1 | slot 0 is [-7;7] | rows(0) = 2 | columns(0) = 1");
        Script.run("20 solve, rows without a pivot", "typed [1;2] | parse(0, 0) = 2 | typed [3;6] | parse(1, 0) = 2 | solve(0, 1, 1) = 1 | slot 1 is [3]",
            "typed [3;7] | parse(1, 0) = 2 | solve(0, 1, 1) = 0 | slot 1 is [3;7] | create(2, 0, 2, 1) = 1 | solve(2, 1, 0) = 0 | solve(0, 2, 1) = 1 | slot 1 is [0]",
            "typed [0;0] | parse(1, 0) = 2 | create(0, 0, 2, 3) = 0 | solve(0, 1, 0) = 1 | slot 0 is [0;0;0]");
        Script.run("20 solve, other rings", "typed [1+i,0;0,1] | parse(0, 1) = 2 | typed [2;i] | parse(1, 1) = 2 | solve(0, 1, 2) = 1 | slot 2 is [1-i;i]",
            "typed [1;i] | parse(1, 1) = 2 | solve(0, 1, 2) = 0", "typed [x+1,0;0,x] | parse(0, 2) = 2 | typed [x^2+1;x^3] | parse(1, 2) = 2 | solve(0, 1, 2) = 1 | slot 2 is [x+1;x^2]",
            "typed [x^2;x^3] | parse(1, 2) = 2 | solve(0, 1, 2) = 0");
        Script.run("20 solve does not look at the logs", "typed [2,1;0,3] | parse(0, 0) = 2 | typed [5;9] | parse(1, 0) = 2 | times 200 scale(0, false, 0, 1, 0)",
            "times 200 scale(1, false, 0, 1, 0) | solve(0, 1, 2) = 1 | slot 2 is [1;3] | steps(1) = 200");
    }

    private static void solveFails() {
        Script.run("20 solve, out of range", "typed [1,0;2,1] | parse(0, 0) = 2 | typed [1000000000;-1000000000] | parse(1, 0) = 2 | solve(0, 1, 2) throws Arithmetic",
            // Here c is in range, and x is not.
            "typed [1,2;0,1] | parse(0, 0) = 2 | solve(0, 1, 2) throws Arithmetic | typed [1000000000;500000000] | parse(1, 0) = 2 | solve(0, 1, 2) = 1 | slot 2 is [0;500000000]",
            // The Smith form itself is out of range.
            "typed [1,1000000000;2,-1000000000] | parse(0, 0) = 2 | typed [0;0] | parse(1, 0) = 2 | solve(0, 1, 2) throws Arithmetic");
        Script.run("20 solve, wrong", "create(0, 0, 2, 2) = 1 | create(1, 0, 2, 2) = 1 | solve(0, 1, 2) throws IllegalState | create(1, 0, 3, 1) = 0",
            "solve(0, 1, 2) throws IllegalState | create(1, 1, 2, 1) = 0 | solve(0, 1, 2) throws IllegalState | solve(0, 2, 1) throws IllegalState",
            "solve(2, 1, 0) throws IllegalState | solve(3, 1, 2) throws IndexOutOfBounds | solve(0, 3, 2) throws IndexOutOfBounds",
            "solve(0, 1, 3) throws IndexOutOfBounds | solve(2, 2, -1) throws IndexOutOfBounds | create(1, 0, 2, 1) = 0 | solve(0, 1, 2) = 1");
    }

    private static void kernel() {
        // The steps are 4,1,0,-1 and 3,0,1 and 4,1,0,-2; (0, 1) becomes (-2, 1), (1, -2), (3, -2).
        Script.run("21 kernel", "typed [2,3] | parse(0, 0) = 1 | kernel(0, 1) = 1 | slot 1 is [3;-2] | steps(1) = 0 | entryAfter(1, 0, 0, 0, 0) = 3",
            "multiply(0, 1, 2) = 1 | slot 2 is [0] | slot 0 is [2,3] | kernel(1, 0) = 0 | slot 0 is [2,3] | kernel(0, 0) = 1 | slot 0 is [3;-2]");
        Script.run("21 kernel, all and nothing", "create(0, 5, 3, 4) = 1 | kernel(0, 0) = 4 | slot 0 is [1,0,0,0;0,1,0,0;0,0,1,0;0,0,0,1] | ring(0) = 5",
            "kernel(0, 1) = 0 | ring(1) = -1 | rows(1) = 0");
        Script.run("21 kernel, other rings", "typed [x,x^2;2,2x] | parse(0, 3) = 2 | kernel(0, 1) = 1 | slot 1 is [2x;1] | typed [1,i,1+i] | parse(0, 1) = 1",
            "kernel(0, 2) = 2 | slot 2 is [-i,-1-i;1,0;0,1] | times 200 scale(0, false, 0, 1, 0) | kernel(0, 1) = 2");
        Script.run("21 kernel, out of range", "typed [1,1000000000;2,-1000000000] | parse(0, 0) = 2 | kernel(0, 1) throws Arithmetic",
            // The form is in range, but (0, 0, 1) becomes (0, -2, 1), and then its first entry 1999999998.
            "typed [1,999999999,0;0,1,2] | parse(0, 0) = 2 | kernel(0, 1) throws Arithmetic");
        Script.run("21 kernel, wrong", "kernel(0, 1) throws IllegalState | kernel(3, 0) throws IndexOutOfBounds | kernel(0, 3) throws IndexOutOfBounds",
            "kernel(0, -1) throws IndexOutOfBounds | kernel(-1, 0) throws IndexOutOfBounds");
    }

    private static void invariant() {
        Script.run("22 invariant", "typed [4,4;4,7] | parse(0, 0) = 2 | invariant(0, 0, 0) = 1 | invariant(0, 1, 0) = 12 | invariant(0, 1, 1) = 0 | slot 0 is [4,4;4,7] | steps(0) = 0",
            "typed [2,4,6;1,2,3] | parse(1, 0) = 2 | invariant(1, 0, 0) = 1 | invariant(1, 1, 0) = 0 | invariant(1, 2, 0) throws IllegalArgument",
            "typed [1+i,0;0,2+i;0,0] | parse(2, 1) = 3 | invariant(2, 1, 0) = 1 | invariant(2, 1, 1) = 3 | invariant(2, 2, 0) throws IllegalArgument | invariant(0, 1, 0) = 12 | invariant(1, 1, 0) = 0");
        Script.run("22 invariant, wrong", "typed [1,1000000000;2,-1000000000] | parse(0, 0) = 2 | invariant(0, 0, 0) throws Arithmetic",
            "invariant(0, 2, 0) throws IllegalArgument | invariant(0, -1, 0) throws IllegalArgument | invariant(0, 0, 2) throws IllegalArgument",
            "invariant(0, 0, -1) throws IllegalArgument | invariant(1, 9, 9) throws IllegalState | invariant(3, 9, 9) throws IndexOutOfBounds | invariant(-1, 0, 0) throws IndexOutOfBounds");
    }

    private static void order() {
        Script.run("23 order", "typed [2,4;6,8] | parse(0, 0) = 2 | order(0) = 8 | slot 0 is [2,4;6,8] | typed [1;2] | parse(0, 0) = 2 | order(0) = 0",
            "typed [4,6] | parse(0, 0) = 1 | order(0) = 2 | create(0, 0, 1, 1) = 0 | order(0) = 0",
            "typed [3+i,2;1-2i,5i] | parse(0, 1) = 2 | order(0) = 410 | typed [x^2+1,x;1,x+1] | parse(0, 2) = 2 | order(0) = 8 | typed [3x^5+1] | parse(0, 7) = 1 | order(0) = 16807",
            "typed [5] | parse(0, 7) = 1 | order(0) = 1");
        Script.run("23 order, large", "typed [1000000000,0;0,1000000000] | parse(0, 0) = 2 | order(0) = 1000000000000000000",
            "typed [1000000000,0,0;0,1000000000,0;0,0,1000000000] | parse(0, 0) = 3 | order(0) throws Arithmetic",
            "typed [30000+30000i,0;0,30000+30000i] | parse(0, 1) = 2 | order(0) throws Arithmetic",
            "typed [x^7,0,0,0;0,x^7,0,0;0,0,x^7,0;0,0,0,x^7] | parse(0, 7) = 4 | order(0) throws Arithmetic | typed [x^7,0,0;0,x^7,0;0,0,x^7] | parse(0, 7) = 3 | order(0) = 558545864083284007",
            "typed [x^7,0,0,0;0,x^7,0,0;0,0,x^7,0;0,0,0,0] | parse(0, 7) = 4 | order(0) = 0");
        Script.run("23 order, wrong", "order(0) throws IllegalState | order(3) throws IndexOutOfBounds | order(-1) throws IndexOutOfBounds",
            "typed [1,1000000000;2,-1000000000] | parse(0, 0) = 2 | order(0) throws Arithmetic");
    }

    private static void determinant() {
        Script.run("24 determinant", "typed [2,4;6,8] | parse(0, 0) = 2 | determinant(0, 0) = -8 | determinant(0, 1) = 0 | slot 0 is [2,4;6,8] | steps(0) = 0",
            "typed [0,1;1,0] | parse(0, 0) = 2 | determinant(0, 0) = -1 | typed [1,2;2,4] | parse(0, 0) = 2 | determinant(0, 0) = 0",
            "typed [2,4;6,8] | parse(1, 0) = 2 | determinant(0, 0) = 0 | determinant(1, 0) = -8 | determinant(0, 0) = 0",
            "typed [0,2,0;0,0,3;5,0,0] | parse(0, 0) = 3 | determinant(0, 0) = 30 | typed [-7] | parse(0, 0) = 1 | determinant(0, 0) = -7");
        Script.run("24 determinant, other rings", "typed [3+i,2;1-2i,5i] | parse(0, 1) = 2 | determinant(0, 0) = -7 | determinant(0, 1) = 19",
            "typed [x,1;1,x] | parse(0, 3) = 2 | determinant(0, 0) = 11 | typed [0,2;1,0] | parse(0, 5) = 2 | determinant(0, 0) = 3",
            "typed [3x,0;0,2x+1] | parse(0, 7) = 2 | determinant(0, 0) = 315");
        Script.run("24 determinant, out of range", "typed [100000,0;0,100000] | parse(0, 0) = 2 | determinant(0, 0) throws Arithmetic | hermite(0) = 2",
            "typed [100000,0,0;0,100000,0;0,0,0] | parse(0, 0) = 3 | determinant(0, 0) = 0 | typed [x^4,0;0,x^4] | parse(0, 2) = 2 | determinant(0, 0) throws Arithmetic",
            "typed [x^4,0;0,x^3] | parse(0, 2) = 2 | determinant(0, 0) = 128 | typed [1,1000000000;2,-1000000000] | parse(0, 0) = 2 | determinant(0, 0) throws Arithmetic");
        Script.run("24 determinant, wrong", "determinant(0, 0) throws IllegalState | create(0, 0, 2, 3) = 1 | determinant(0, 0) throws IllegalState | determinant(0, 2) throws IllegalState",
            "create(0, 0, 2, 2) = 0 | determinant(0, 2) throws IllegalArgument | determinant(0, -1) throws IllegalArgument | determinant(3, 2) throws IndexOutOfBounds | determinant(-1, 0) throws IndexOutOfBounds",
            "typed [1,1000000000;2,-1000000000] | parse(0, 0) = 2 | determinant(0, 2) throws IllegalArgument");
    }

    private static void sameSpan() {
        Script.run("25 sameSpan", "typed [2,4;6,8] | parse(0, 0) = 2 | typed [2,0;0,4;2,4] | parse(1, 0) = 3 | sameSpan(0, 1) = 1 | sameSpan(1, 0) = 1 | sameSpan(0, 0) = 1",
            "typed [2,0;0,2] | parse(2, 0) = 2 | sameSpan(0, 2) = 0 | typed [2,0] | parse(2, 0) = 1 | sameSpan(0, 2) = 0 | sameSpan(2, 0) = 0 | slot 0 is [2,4;6,8] | steps(0) = 0 | slot 1 is [2,0;0,4;2,4]",
            "create(0, 0, 1, 2) = 0 | create(1, 0, 3, 2) = 0 | sameSpan(0, 1) = 1 | create(1, 0, 1, 3) = 0 | sameSpan(0, 1) = 0 | create(1, 1, 1, 2) = 0 | sameSpan(0, 1) = 0");
        Script.run("25 sameSpan, other rings", "typed [1+i;2] | parse(0, 1) = 2 | typed [-1+i] | parse(1, 1) = 1 | sameSpan(0, 1) = 1 | typed [2x,1] | parse(0, 3) = 1 | typed [x,2] | parse(1, 3) = 1 | sameSpan(0, 1) = 1",
            "typed [x,1] | parse(1, 3) = 1 | sameSpan(0, 1) = 0");
        Script.run("25 sameSpan, wrong", "typed [1,1000000000;2,-1000000000] | parse(0, 0) = 2 | sameSpan(0, 0) throws Arithmetic | create(1, 0, 1, 2) = 1 | sameSpan(0, 1) throws Arithmetic",
            "sameSpan(1, 0) throws Arithmetic | create(1, 0, 1, 3) = 0 | sameSpan(0, 1) = 0 | create(1, 1, 1, 2) = 0 | sameSpan(1, 0) = 0 | sameSpan(0, 2) throws IllegalState",
            "sameSpan(2, 0) throws IllegalState | sameSpan(3, 2) throws IndexOutOfBounds | sameSpan(2, 3) throws IndexOutOfBounds | sameSpan(-1, 0) throws IndexOutOfBounds");
    }

    private static void areEquivalent() {
        Script.run("26 areEquivalent", "typed [4,4;4,7] | parse(0, 0) = 2 | typed [3,0;0,4] | parse(1, 0) = 2 | areEquivalent(0, 1) = 1 | areEquivalent(1, 0) = 1 | areEquivalent(0, 0) = 1",
            "typed [2,0;0,6] | parse(1, 0) = 2 | areEquivalent(0, 1) = 0 | typed [1,0;0,0] | parse(1, 0) = 2 | areEquivalent(0, 1) = 0 | slot 0 is [4,4;4,7] | steps(0) = 0",
            "create(0, 0, 2, 1) = 0 | create(1, 0, 1, 2) = 0 | areEquivalent(0, 1) = 0 | create(1, 0, 3, 1) = 0 | areEquivalent(0, 1) = 0 | create(1, 0, 2, 2) = 0 | areEquivalent(0, 1) = 0",
            "create(1, 1, 2, 1) = 0 | areEquivalent(0, 1) = 0 | create(1, 0, 2, 1) = 0 | areEquivalent(0, 1) = 1");
        Script.run("26 areEquivalent, other rings", "typed [1+i] | parse(0, 1) = 1 | typed [1-i] | parse(1, 1) = 1 | areEquivalent(0, 1) = 1 | typed [2x] | parse(0, 5) = 1 | typed [x+1] | parse(1, 5) = 1 | areEquivalent(0, 1) = 0");
        Script.run("26 areEquivalent, wrong", "typed [1,1000000000;2,-1000000000] | parse(0, 0) = 2 | areEquivalent(0, 0) throws Arithmetic | create(1, 0, 2, 2) = 1 | areEquivalent(0, 1) throws Arithmetic",
            "areEquivalent(1, 0) throws Arithmetic | create(1, 0, 1, 2) = 0 | areEquivalent(0, 1) = 0 | create(1, 1, 2, 2) = 0 | areEquivalent(1, 0) = 0 | areEquivalent(0, 2) throws IllegalState",
            "areEquivalent(2, 0) throws IllegalState | areEquivalent(3, 2) throws IndexOutOfBounds | areEquivalent(2, 3) throws IndexOutOfBounds | areEquivalent(0, -1) throws IndexOutOfBounds");
    }
}
