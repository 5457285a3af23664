/** Promises 15 and 16: the Hermite and the Smith form, with the very steps that the document tells. */
public final class FormsTest {
    public static void main(String[] arguments) {
        hermite();
        hermiteFails();
        smith();
        smithFails();
        Script.finish();
    }

    private static void hermite() {
        Script.run("15 hermite", "typed [2,4;6,8] | parse(0, 0) = 2 | hermite(0) = 2 | slot 0 is [2,0;0,4] | log 0 is 1,1,0,-3,0 2,1,-1,-1,0 1,0,1,-1,0",
            "hermite(0) = 2 | steps(0) = 3");
        Script.run("15 hermite, zeros", "create(0, 0, 3, 2) = 1 | hermite(0) = 0 | log 0 is ", "typed [0,0,0;0,0,-3] | parse(0, 0) = 2 | hermite(0) = 1",
            "slot 0 is [0,0,3;0,0,0] | log 0 is 0,0,1,0,0 2,0,-1,-1,0");
        Script.run("15 hermite, the lowest of equal sizes", "typed [5;-2;2] | parse(0, 0) = 3 | hermite(0) = 1",
            // -2 comes up; 5 = -2 * -2 + 1, 2 = -1 * -2; then 1 comes up.
            "log 0 is 0,0,1,0,0 1,1,0,2,0 1,2,0,1,0 0,0,1,0,0 1,1,0,2,0 | slot 0 is [1;0;0]");
        Script.run("15 hermite, above the pivot", "typed [1,7,-5;0,2,1;0,0,4] | parse(0, 0) = 3 | hermite(0) = 3 | slot 0 is [1,1,0;0,2,1;0,0,4]",
            "log 0 is 1,0,1,-3,0 1,0,2,2,0");
        Script.run("15 hermite, a column without a pivot", "typed [2,4,1;1,2,3] | parse(0, 0) = 2 | hermite(0) = 2 | slot 0 is [1,2,3;0,0,5]",
            "log 0 is 0,0,1,0,0 1,1,0,-2,0 2,1,-1,-1,0");
        Script.run("15 hermite, more rows than the rank", "typed [4;6;10;3] | parse(0, 0) = 4 | hermite(0) = 1 | slot 0 is [1;0;0;0]",
            // 3 comes up: 6 - 3 * 2, 10 - 3 * 3, 4 - 3; then the first 1.
            "log 0 is 0,0,3,0,0 1,1,0,-2,0 1,2,0,-3,0 1,3,0,-1,0 0,0,2,0,0 1,2,0,-3,0 1,3,0,-1,0");
        Script.run("15 hermite, Gaussian", "typed [2;1+i] | parse(0, 1) = 2 | hermite(0) = 1 | slot 0 is [1+i;0] | log 0 is 0,0,1,0,0 1,1,0,-1,1",
            "typed [-2i,1] | parse(0, 1) = 1 | hermite(0) = 1 | slot 0 is [2,i] | log 0 is 2,0,-1,0,1",
            "typed [3i] | parse(0, 1) = 1 | hermite(0) = 1 | slot 0 is [3] | log 0 is 2,0,-1,0,-1",
            "typed [-3] | parse(0, 1) = 1 | hermite(0) = 1 | slot 0 is [3] | log 0 is 2,0,-1,-1,0 | smith(0) = 1 | steps(0) = 1",
            "typed [-1-i] | parse(0, 1) = 1 | hermite(0) = 1 | slot 0 is [1+i] | log 0 is 2,0,-1,-1,0");
        Script.run("15 hermite, polynomials", "typed [2x^2+1;x] | parse(0, 3) = 2 | hermite(0) = 1 | slot 0 is [1;0]",
            "log 0 is 0,0,1,0,0 1,1,0,3,0 0,0,1,0,0 1,1,0,6,0", "typed [3x,1] | parse(0, 5) = 1 | hermite(0) = 1 | slot 0 is [x,2] | log 0 is 2,0,-1,2,0");
        Script.run("15 hermite, wrong", "hermite(0) throws IllegalState | hermite(3) throws IndexOutOfBounds | hermite(-1) throws IndexOutOfBounds");
    }

    private static void hermiteFails() {
        Script.run("15 hermite, out of range", "typed [1,1000000000;2,-1000000000] | parse(0, 0) = 2 | swap(0, false, 0, 1) = 1 | hermite(0) throws Arithmetic",
            "slot 0 is [2,-1000000000;1,1000000000] | steps(0) = 1");
        Script.run("15 hermite, out of range only in between", "typed [2,999999999;3,-1] | parse(0, 0) = 2 | determinant(0, 0) throws Arithmetic",
            "hermite(0) throws Arithmetic");
        Script.run("15 hermite and a full log", "typed [2,4;6,8] | parse(0, 0) = 2 | times 196 scale(0, false, 0, 1, 0) | scale(0, false, 0, 1, 0) = 197",
            "hermite(0) = 2 | steps(0) = 200 | slot 0 is [2,0;0,4] | entryAfter(0, 198, 1, 1, 0) = -4 | hermite(0) = 2 | steps(0) = 200",
            "typed [2,4;6,8] | parse(0, 0) = 2 | times 198 scale(0, false, 0, 1, 0) | hermite(0) throws Arithmetic | slot 0 is [2,4;6,8] | steps(0) = 198",
            "determinant(0, 0) = -8 | invariant(0, 1, 0) = 4 | sameSpan(0, 0) = 1");
    }

    private static void smith() {
        Script.run("16 smith", "typed [2,4;6,8] | parse(0, 0) = 2 | smith(0) = 2 | slot 0 is [2,0;0,4] | log 0 is 1,1,0,-3,0 4,1,0,-2,0 2,1,-1,-1,0",
            "smith(0) = 2 | steps(0) = 3 | create(0, 3, 2, 4) = 0 | smith(0) = 0 | steps(0) = 0");
        Script.run("16 smith, a pivot that does not divide, and a quotient of 0", "typed [4,4;4,7] | parse(0, 0) = 2 | smith(0) = 2 | slot 0 is [1,0;0,12]",
            "log 0 is 1,1,0,-1,0 4,1,0,-1,0 1,0,1,1,0 4,1,0,0,0 3,0,1,0,0 1,1,0,-1,0 4,1,0,-1,0 3,0,1,0,0 1,1,0,4,0 4,1,0,-3,0");
        Script.run("16 smith, row before column", "typed [6,4,6;6,6,-4] | parse(0, 0) = 2 | smith(0) = 2",
            "step(0, 0, 0) = 3 | step(0, 0, 1) = 0 | step(0, 0, 2) = 1");
        Script.run("16 smith, both swaps", "typed [4,6;8,2] | parse(0, 0) = 2 | smith(0) = 2 | slot 0 is [2,0;0,20]",
            // [8,2;4,6], [2,8;6,4], then 6 - 3 * 2 and 8 - 4 * 2.
            "log 0 is 0,0,1,0,0 3,0,1,0,0 1,1,0,-3,0 4,1,0,-4,0 2,1,-1,-1,0");
        Script.run("16 smith, the first entry that is not divided", "typed [2,0,0;0,2,3;0,3,2] | parse(0, 0) = 3 | smith(0) = 3 | slot 0 is [1,0,0;0,1,0;0,0,10]",
            "step(0, 0, 0) = 1 | step(0, 0, 1) = 0 | step(0, 0, 2) = 1 | step(0, 0, 3) = 1 | step(0, 1, 0) = 4 | step(0, 1, 1) = 1 | step(0, 1, 3) = -1",
            "step(0, 2, 0) = 4 | step(0, 2, 1) = 2 | step(0, 2, 3) = -1");
        Script.run("16 smith, more columns than rows", "typed [0,0,-6,0] | parse(0, 0) = 1 | smith(0) = 1 | slot 0 is [6,0,0,0] | log 0 is 3,0,2,0,0 2,0,-1,-1,0");
        Script.run("16 smith, Gaussian", "typed [1+i,0;0,2+i] | parse(0, 1) = 2 | smith(0) = 2 | slot 0 is [1,0;0,1+3i]",
            // 2 + i = (2 - 0i rounded up at the halves) times 1 + i, with the remainder -i.
            "step(0, 0, 0) = 1 | step(0, 1, 0) = 4 | step(0, 1, 3) = -2 | step(0, 1, 4) = 0 | step(0, 2, 0) = 3");
        Script.run("16 smith, polynomials", "typed [x,1] | parse(0, 2) = 1 | smith(0) = 1 | log 0 is 3,0,1,0,0 4,1,0,2,0 | slot 0 is [1,0]",
            "typed [2x,0;0,x^2+2x] | parse(1, 3) = 2 | smith(1) = 2 | slot 1 is [x,0;0,x^2+2x] | log 1 is 2,0,-1,2,0");
        Script.run("16 smith, wrong", "smith(0) throws IllegalState | smith(3) throws IndexOutOfBounds | smith(-1) throws IndexOutOfBounds");
    }

    private static void smithFails() {
        Script.run("16 smith, out of range", "typed [1,1000000000;2,-1000000000] | parse(0, 0) = 2 | swap(0, false, 0, 1) = 1 | smith(0) throws Arithmetic",
            "slot 0 is [2,-1000000000;1,1000000000] | steps(0) = 1 | invariant(0, 0, 0) throws Arithmetic",
            "typed [x^5,1;1,x^5] | parse(1, 2) = 2 | smith(1) throws Arithmetic | hermite(1) throws Arithmetic");
        Script.run("16 smith and a full log", "typed [2,4;6,8] | parse(0, 0) = 2 | times 197 scale(0, false, 0, 1, 0) | smith(0) = 2 | steps(0) = 200",
            "typed [2,4;6,8] | parse(0, 0) = 2 | times 198 scale(0, false, 0, 1, 0) | smith(0) throws Arithmetic | slot 0 is [2,4;6,8]",
            "order(0) = 8 | areEquivalent(0, 0) = 1");
    }
}
