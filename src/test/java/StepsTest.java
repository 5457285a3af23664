/** Promises 10 to 14 and 17 to 19: steps and logs. */
public final class StepsTest {
    public static void main(String[] arguments) {
        swap();
        add();
        scale();
        back();
        transfer();
        stepsAndStep();
        entryAfter();
        Script.finish();
    }

    private static void swap() {
        Script.run("10 swap", "typed [1,2,3;4,5,6] | parse(0, 0) = 2 | swap(0, false, 0, 1) = 1 | slot 0 is [4,5,6;1,2,3]",
            "swap(0, true, 2, 0) = 2 | slot 0 is [6,5,4;3,2,1] | log 0 is 0,0,1,0,0 3,2,0,0,0",
            "swap(0, false, 0, 2) throws IllegalArgument | swap(0, false, 2, 0) throws IllegalArgument",
            "swap(0, false, -1, 0) throws IllegalArgument | swap(0, true, 0, 3) throws IllegalArgument",
            "swap(0, true, 0, -1) throws IllegalArgument | swap(0, false, 1, 1) throws IllegalArgument",
            "swap(0, true, 2, 2) throws IllegalArgument | swap(1, false, 0, 1) throws IllegalState",
            "swap(1, false, 7, 7) throws IllegalState | swap(3, false, 0, 1) throws IndexOutOfBounds | swap(-1, false, 0, 0) throws IndexOutOfBounds");
        Script.run("10 swap, a full log", "typed [1;2] | parse(0, 0) = 2 | times 199 swap(0, false, 0, 1) | swap(0, false, 1, 0) = 200",
            "swap(0, false, 0, 1) throws Arithmetic | swap(0, false, 1, 1) throws IllegalArgument | slot 0 is [1;2]",
            "steps(0) = 200 | step(0, 199, 1) = 1 | back(0) = 199 | slot 0 is [2;1] | swap(0, false, 0, 1) = 200");
    }

    private static void add() {
        Script.run("11 add", "typed [1,2;3,4] | parse(0, 0) = 2 | add(0, false, 1, 0, -3, 0) = 1 | slot 0 is [1,2;0,-2]",
            "add(0, true, 0, 1, 5, 0) = 2 | slot 0 is [11,2;-10,-2] | add(0, false, 0, 1, 0, 0) = 3 | slot 0 is [11,2;-10,-2]",
            "log 0 is 1,1,0,-3,0 4,0,1,5,0 1,0,1,0,0");
        Script.run("11 add, other rings", "typed [1+i;2-i] | parse(0, 1) = 2 | add(0, false, 0, 1, 3, -2) = 1 | slot 0 is [5-6i;2-i]",
            "log 0 is 1,0,1,3,-2 | typed [x,x+1] | parse(0, 2) = 1 | add(0, true, 1, 0, 3, 0) = 1 | slot 0 is [x,x^2+1]",
            "typed [4x+3,6x^7] | parse(1, 7) = 1 | add(1, true, 1, 0, 823543, 0) throws Arithmetic | add(1, true, 1, 0, 117649, 0) = 1",
            "slot 1 is [4x+3,3x^7+3x^6]");
        Script.run("11 add, only sums must be in range", "typed [1000000000;-1000000000] | parse(0, 0) = 2 | add(0, false, 1, 0, 2, 0) = 1",
            "slot 0 is [1000000000;1000000000] | add(0, false, 1, 0, -3, 0) throws Arithmetic | add(0, false, 1, 0, -2, 0) = 2",
            "typed [30000+30000i,-30000-30000i] | parse(1, 1) = 1 | add(1, true, 1, 0, 2, 0) = 1 | slot 1 is [30000+30000i,30000+30000i]",
            "add(1, true, 0, 1, 0, 1) throws Arithmetic | add(1, true, 0, 1, 30000, 30000) throws Arithmetic");
        Script.run("11 add, one entry of the line is out of range", "typed [1,1,1000000000;1,1,1] | parse(0, 0) = 2",
            "add(0, false, 1, 0, 1, 0) throws Arithmetic | add(0, false, 0, 1, 1, 0) throws Arithmetic | slot 0 is [1,1,1000000000;1,1,1]");
        Script.run("11 add, wrong", "create(0, 0, 2, 3) = 1 | add(0, false, 0, 2, 1, 0) throws IllegalArgument",
            "add(0, false, 2, 0, 1, 0) throws IllegalArgument | add(0, true, 3, 0, 1, 0) throws IllegalArgument | add(0, true, 2, 0, 1, 0) = 1",
            "add(0, true, 0, 3, 1, 0) throws IllegalArgument | add(0, false, -1, 0, 1, 0) throws IllegalArgument",
            "add(0, false, 0, -1, 1, 0) throws IllegalArgument | add(0, true, 1, 1, 1, 0) throws IllegalArgument",
            "add(0, false, 0, 1, 1000000001, 0) throws IllegalArgument | add(0, false, 0, 1, 1, 1) throws IllegalArgument",
            "add(1, false, 0, 0, 1, 1) throws IllegalState | add(3, false, 0, 1, 1, 0) throws IndexOutOfBounds",
            "create(1, 2, 2, 2) = 1 | add(1, false, 0, 1, 256, 0) throws IllegalArgument | add(1, false, 0, 1, -1, 0) throws IllegalArgument");
        Script.run("11 add, a full log", "create(0, 0, 2, 2) = 1 | times 200 add(0, false, 0, 1, 0, 0) | add(0, true, 0, 1, 0, 0) throws Arithmetic",
            "add(0, true, 0, 1, 0, 1) throws IllegalArgument");
    }

    private static void scale() {
        Script.run("12 scale", "typed [1,2;3,4] | parse(0, 0) = 2 | scale(0, false, 1, -1, 0) = 1 | slot 0 is [1,2;-3,-4]",
            "scale(0, true, 0, -1, 0) = 2 | slot 0 is [-1,2;3,-4] | scale(0, true, 0, 1, 0) = 3 | log 0 is 2,1,-1,-1,0 5,0,-1,-1,0 5,0,-1,1,0",
            "scale(0, false, 0, 0, 0) throws IllegalArgument | scale(0, false, 0, 2, 0) throws IllegalArgument",
            "scale(0, false, 0, 1, 1) throws IllegalArgument | scale(0, false, 0, 0, 1) throws IllegalArgument",
            "scale(0, false, 2, 1, 0) throws IllegalArgument | scale(0, true, -1, 1, 0) throws IllegalArgument",
            "scale(1, false, 0, 2, 0) throws IllegalState | scale(3, false, 0, 1, 0) throws IndexOutOfBounds");
        Script.run("12 scale, Gaussian", "typed [2+3i,-30000] | parse(0, 1) = 1 | scale(0, false, 0, 0, 1) = 1 | slot 0 is [-3+2i,-30000i]",
            "scale(0, true, 1, 0, -1) = 2 | slot 0 is [-3+2i,-30000] | scale(0, true, 1, -1, 0) = 3 | slot 0 is [-3+2i,30000]",
            "scale(0, true, 1, 1, 1) throws IllegalArgument | scale(0, true, 1, 65536, 65537) throws IllegalArgument",
            "scale(0, true, 1, 0, 0) throws IllegalArgument | scale(0, true, 1, 0, 2) throws IllegalArgument");
        Script.run("12 scale, polynomials", "typed [3x^7+5,6x] | parse(0, 7) = 1 | scale(0, false, 0, 3, 0) = 1 | slot 0 is [2x^7+1,4x]",
            "scale(0, true, 1, 6, 0) = 2 | slot 0 is [2x^7+1,3x] | scale(0, true, 1, 7, 0) throws IllegalArgument",
            "scale(0, true, 1, 0, 0) throws IllegalArgument | scale(0, true, 1, -1, 0) throws IllegalArgument | create(1, 2, 1, 1) = 1",
            "scale(1, false, 0, 1, 0) = 1 | scale(1, false, 0, 2, 0) throws IllegalArgument");
        Script.run("12 scale, a full log", "create(0, 0, 1, 1) = 1 | times 200 scale(0, false, 0, -1, 0) | scale(0, false, 0, 1, 0) throws Arithmetic",
            "scale(0, false, 0, 2, 0) throws IllegalArgument");
    }

    private static void back() {
        Script.run("13 back", "typed [1,2;3,4] | parse(0, 0) = 2 | swap(0, true, 0, 1) = 1 | add(0, false, 1, 0, 7, 0) = 2 | scale(0, true, 1, -1, 0) = 3",
            "slot 0 is [2,-1;18,-10] | back(0) = 2 | slot 0 is [2,1;18,10] | back(0) = 1 | slot 0 is [2,1;4,3] | back(0) = 0 | slot 0 is [1,2;3,4]",
            "back(0) throws IllegalState | back(1) throws IllegalState | back(3) throws IndexOutOfBounds | back(-1) throws IndexOutOfBounds");
        Script.run("13 back, other rings", "typed [1+2i,3;4,5i] | parse(0, 1) = 2 | scale(0, false, 0, 0, 1) = 1 | add(0, true, 0, 1, 2, -3) = 2",
            "swap(0, false, 1, 0) = 3 | scale(0, true, 1, 0, -1) = 4 | back(0) = 3 | back(0) = 2 | back(0) = 1 | slot 0 is [-2+i,3i;4,5i] | back(0) = 0",
            "slot 0 is [1+2i,3;4,5i] | typed [2x+1,x^2] | parse(1, 5) = 1 | scale(1, false, 0, 3, 0) = 1 | add(1, true, 1, 0, 9, 0) = 2",
            "slot 1 is [x+3,4x^2+2x+2] | back(1) = 1 | slot 1 is [x+3,3x^2] | back(1) = 0 | slot 1 is [2x+1,x^2]");
        Script.run("13 back of forms", "typed [2,4;6,8] | parse(0, 0) = 2 | hermite(0) = 2 | back(0) = 2 | slot 0 is [2,4;0,4] | back(0) = 1",
            "slot 0 is [2,4;0,-4] | back(0) = 0 | slot 0 is [2,4;6,8] | smith(0) = 2 | back(0) = 2 | entryAfter(0, 2, 1, 1, 0) = -4");
    }

    private static void transfer() {
        Script.run("14 transfer", "typed [2,4;6,8] | parse(0, 0) = 2 | smith(0) = 2 | log 0 is 1,1,0,-3,0 4,1,0,-2,0 2,1,-1,-1,0",
            "typed [1,0,5;0,1,6] | parse(1, 0) = 2 | scale(1, false, 0, 1, 0) = 1 | transfer(0, 1, false) = 2 | slot 1 is [1,0,5;3,-1,9]",
            "log 1 is 2,0,-1,1,0 1,1,0,-3,0 2,1,-1,-1,0 | transfer(0, 1, true) throws IllegalState",
            "typed [1,0;0,1;7,8] | parse(2, 0) = 3 | transfer(0, 2, true) = 1 | slot 2 is [1,-2;0,1;7,-6] | log 2 is 4,1,0,-2,0",
            "transfer(0, 2, false) throws IllegalState | transfer(0, 0, false) throws IllegalState | steps(0) = 3");
        Script.run("14 transfer, nothing to do", "create(0, 0, 2, 2) = 1 | create(1, 0, 2, 2) = 1 | transfer(0, 1, false) = 0",
            "swap(0, false, 0, 1) = 1 | transfer(0, 1, true) = 0 | steps(1) = 0 | transfer(0, 1, false) = 1");
        Script.run("14 transfer fails in between", "typed [1;1] | parse(0, 0) = 2 | swap(0, false, 0, 1) = 1 | add(0, false, 0, 1, 1, 0) = 2",
            "add(0, false, 0, 1, -1, 0) = 3 | typed [1;1000000000] | parse(1, 0) = 2 | transfer(0, 1, false) throws Arithmetic | slot 1 is [1;1000000000]",
            "typed [1;999999999] | parse(1, 0) = 2 | transfer(0, 1, false) = 3 | slot 1 is [999999999;1]");
        Script.run("14 transfer and a full log", "create(0, 0, 2, 2) = 1 | swap(0, false, 0, 1) = 1 | swap(0, false, 0, 1) = 2 | swap(0, true, 0, 1) = 3",
            "typed [1;2] | parse(1, 0) = 2 | times 198 swap(1, false, 0, 1) | transfer(0, 1, false) = 2 | steps(1) = 200 | back(1) = 199",
            "transfer(0, 1, false) throws Arithmetic | steps(1) = 199");
        Script.run("14 transfer, wrong", "create(0, 0, 2, 2) = 1 | create(1, 1, 2, 2) = 1 | transfer(0, 1, false) throws IllegalState",
            "transfer(0, 2, false) throws IllegalState | transfer(2, 0, true) throws IllegalState | transfer(3, 0, true) throws IndexOutOfBounds",
            "transfer(0, 3, true) throws IndexOutOfBounds | transfer(2, -1, true) throws IndexOutOfBounds");
    }

    private static void stepsAndStep() {
        Script.run("17 steps", "steps(0) = 0 | steps(3) throws IndexOutOfBounds | steps(-1) throws IndexOutOfBounds | create(0, 0, 2, 2) = 1 | steps(0) = 0",
            "swap(0, false, 0, 1) = 1 | steps(0) = 1 | smith(0) = 0 | steps(0) = 1");
        Script.run("18 step", "create(0, 1, 3, 3) = 1 | swap(0, false, 2, 1) = 1 | add(0, true, 0, 2, -4, 5) = 2 | scale(0, true, 1, 0, -1) = 3",
            "step(0, 0, 0) = 0 | step(0, 0, 1) = 2 | step(0, 0, 2) = 1 | step(0, 0, 3) = 0 | step(0, 0, 4) = 0",
            "step(0, 1, 0) = 4 | step(0, 1, 1) = 0 | step(0, 1, 2) = 2 | step(0, 1, 3) = -4 | step(0, 1, 4) = 5",
            "step(0, 2, 0) = 5 | step(0, 2, 1) = 1 | step(0, 2, 2) = -1 | step(0, 2, 3) = 0 | step(0, 2, 4) = -1",
            "step(0, 3, 0) throws IndexOutOfBounds | step(0, -1, 0) throws IndexOutOfBounds | step(0, 3, 9) throws IndexOutOfBounds",
            "step(0, 0, 5) throws IllegalArgument | step(0, 0, -1) throws IllegalArgument | step(1, 0, 0) throws IndexOutOfBounds",
            "step(3, 0, 0) throws IndexOutOfBounds | step(-1, 0, 9) throws IndexOutOfBounds | back(0) = 2 | step(0, 2, 0) throws IndexOutOfBounds");
    }

    private static void entryAfter() {
        Script.run("19 entryAfter", "typed [1,2;3,4] | parse(0, 0) = 2 | swap(0, true, 0, 1) = 1 | add(0, false, 1, 0, 7, 0) = 2 | scale(0, true, 1, -1, 0) = 3",
            "entryAfter(0, 0, 0, 0, 0) = 1 | entryAfter(0, 0, 1, 0, 0) = 3 | entryAfter(0, 1, 1, 0, 0) = 4 | entryAfter(0, 2, 1, 0, 0) = 18",
            "entryAfter(0, 2, 1, 1, 0) = 10 | entryAfter(0, 3, 1, 1, 0) = -10 | entryAfter(0, 3, 1, 1, 1) = 0",
            "entryAfter(0, 4, 0, 0, 0) throws IllegalArgument | entryAfter(0, -1, 0, 0, 0) throws IllegalArgument",
            "entryAfter(0, 0, 2, 0, 0) throws IllegalArgument | entryAfter(0, 0, 0, 2, 0) throws IllegalArgument",
            "entryAfter(0, 0, -1, 0, 0) throws IllegalArgument | entryAfter(0, 0, 0, -1, 0) throws IllegalArgument",
            "entryAfter(0, 0, 0, 0, 2) throws IllegalArgument | entryAfter(0, 0, 0, 0, -1) throws IllegalArgument",
            "entryAfter(1, 9, 0, 0, 0) throws IllegalState | entryAfter(3, 9, 9, 9, 9) throws IndexOutOfBounds | slot 0 is [2,-1;18,-10]",
            "back(0) = 2 | entryAfter(0, 3, 0, 0, 0) throws IllegalArgument");
        Script.run("19 entryAfter, Gaussian", "typed [1+2i] | parse(0, 1) = 1 | scale(0, false, 0, 0, 1) = 1 | entryAfter(0, 0, 0, 0, 1) = 2 | entryAfter(0, 1, 0, 0, 1) = 1",
            "entryAfter(0, 1, 0, 0, 0) = -2");
    }
}
