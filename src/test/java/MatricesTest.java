/** Promises 1 to 9: matrices. */
public final class MatricesTest {
    public static void main(String[] arguments) {
        newObject();
        create();
        set();
        copy();
        multiply();
        readings();
        Script.finish();
    }

    private static void newObject() {
        Script.run("1 new object", "ring(0) = -1 | ring(1) = -1 | ring(2) = -1 | rows(0) = 0 | columns(2) = 0 | steps(1) = 0",
            "written(0) throws IndexOutOfBounds | fault(0) = 0 | clearText() = 0 | write(0) throws IllegalState");
    }

    private static void create() {
        Script.run("2 create", "create(0, 0, 1, 4) = 1 | ring(0) = 0 | rows(0) = 1 | columns(0) = 4 | slot 0 is [0,0,0,0]",
            "create(0, 1, 4, 1) = 0 | ring(0) = 1 | slot 0 is [0;0;0;0]",
            "create(1, 2, 1, 1) = 1 | create(1, 3, 1, 1) = 0 | create(1, 5, 1, 1) = 0 | create(2, 7, 4, 4) = 1 | ring(2) = 7");
        Script.run("2 create replaces", "typed [1,2;3,4] | parse(0, 0) = 2 | hermite(0) = 2 | create(0, 0, 2, 2) = 0",
            "slot 0 is [0,0;0,0] | steps(0) = 0 | entryAfter(0, 0, 0, 0, 0) = 0");
        Script.run("2 create, wrong", "create(-1, 0, 1, 1) throws IndexOutOfBounds | create(3, 0, 1, 1) throws IndexOutOfBounds",
            "create(0, -1, 1, 1) throws IllegalArgument | create(0, 4, 1, 1) throws IllegalArgument",
            "create(0, 6, 1, 1) throws IllegalArgument | create(0, 8, 1, 1) throws IllegalArgument",
            "create(0, 0, 0, 1) throws IllegalArgument | create(0, 0, 5, 1) throws IllegalArgument",
            "create(0, 0, 1, 0) throws IllegalArgument | create(0, 0, 1, 5) throws IllegalArgument",
            "create(0, 0, -2147483648, 2147483647) throws IllegalArgument",
            "create(3, 4, 0, 0) throws IndexOutOfBounds | create(0, 0, 1, 1) = 1");
    }

    private static void set() {
        Script.run("3 set", "create(0, 0, 2, 2) = 1 | set(0, 0, 1, 5, 0) = 0 | set(0, 0, 1, -1000000000, 0) = 5",
            "set(0, 0, 1, 1000000000, 0) = -1000000000 | slot 0 is [0,1000000000;0,0]",
            "set(0, 0, 0, 1000000001, 0) throws IllegalArgument | set(0, 0, 0, -1000000001, 0) throws IllegalArgument",
            "set(0, 0, 0, 1, 1) throws IllegalArgument | set(0, 2, 0, 1, 0) throws IllegalArgument",
            "set(0, -1, 0, 1, 0) throws IllegalArgument | set(0, 0, 2, 1, 0) throws IllegalArgument",
            "set(0, 0, -1, 1, 0) throws IllegalArgument | set(1, 0, 0, 1, 0) throws IllegalState",
            "set(1, 9, 9, 1, 1) throws IllegalState | set(3, 0, 0, 1, 0) throws IndexOutOfBounds",
            "set(-1, 0, 0, 1, 0) throws IndexOutOfBounds");
        Script.run("3 set, Gaussian", "create(0, 1, 1, 1) = 1 | set(0, 0, 0, -30000, 30000) = 0 | set(0, 0, 0, 30000, -30000) = -30000",
            "set(0, 0, 0, 30001, 0) throws IllegalArgument | set(0, 0, 0, -30001, 0) throws IllegalArgument",
            "set(0, 0, 0, 0, 30001) throws IllegalArgument | set(0, 0, 0, 0, -30001) throws IllegalArgument",
            "entry(0, 0, 0, 1) = -30000");
        Script.run("3 set, polynomials", "create(0, 2, 1, 1) = 1 | set(0, 0, 0, 255, 0) = 0 | set(0, 0, 0, 256, 0) throws IllegalArgument",
            "set(0, 0, 0, -1, 0) throws IllegalArgument | set(0, 0, 0, 1, 1) throws IllegalArgument",
            "create(0, 3, 1, 1) = 0 | set(0, 0, 0, 6560, 0) = 0 | set(0, 0, 0, 6561, 0) throws IllegalArgument",
            "create(0, 5, 1, 1) = 0 | set(0, 0, 0, 390624, 0) = 0 | set(0, 0, 0, 390625, 0) throws IllegalArgument",
            "create(0, 7, 1, 1) = 0 | set(0, 0, 0, 5764800, 0) = 0 | set(0, 0, 0, 5764801, 0) throws IllegalArgument");
        Script.run("3 set begins the log anew", "typed [2,4;6,8] | parse(0, 0) = 2 | hermite(0) = 2 | steps(0) = 3",
            "set(0, 1, 0, 7, 0) = 0 | steps(0) = 0 | entryAfter(0, 0, 1, 0, 0) = 7 | entryAfter(0, 0, 1, 1, 0) = 4",
            "back(0) throws IllegalState | set(0, 1, 0, 7, 0) = 7");
    }

    private static void copy() {
        Script.run("4 copy", "typed [2,4;6,8] | parse(0, 0) = 2 | hermite(0) = 2 | copy(0, 2) = 3 | slot 2 is [2,0;0,4]",
            "log 2 is 1,1,0,-3,0 2,1,-1,-1,0 1,0,1,-1,0 | entryAfter(2, 0, 1, 0, 0) = 6 | back(2) = 2 | steps(0) = 3 | slot 0 is [2,0;0,4]",
            "copy(0, 0) = 3 | steps(0) = 3 | copy(1, 0) throws IllegalState | copy(1, 1) throws IllegalState",
            "copy(3, 0) throws IndexOutOfBounds | copy(0, 3) throws IndexOutOfBounds | copy(1, 3) throws IndexOutOfBounds",
            "copy(1, -1) throws IndexOutOfBounds | copy(-1, 0) throws IndexOutOfBounds");
    }

    private static void multiply() {
        Script.run("5 multiply", "typed [1,2;3,4;5,6] | parse(0, 0) = 3 | typed [1,0,2,1;0,1,3,-1] | parse(1, 0) = 2",
            "multiply(0, 1, 2) = 4 | slot 2 is [1,2,8,-1;3,4,18,-1;5,6,28,-1] | steps(2) = 0 | entryAfter(2, 0, 2, 2, 0) = 28",
            "multiply(1, 0, 2) throws IllegalState | multiply(0, 1, 0) = 4 | slot 0 is [1,2,8,-1;3,4,18,-1;5,6,28,-1]");
        Script.run("5 multiply into an operand", "typed [1,1;0,1] | parse(0, 0) = 2 | swap(0, false, 0, 1) = 1 | multiply(0, 0, 0) = 2",
            "slot 0 is [1,1;1,2] | steps(0) = 0 | multiply(0, 0, 0) = 2 | slot 0 is [2,3;3,5]");
        Script.run("5 multiply, other rings", "typed [2+i,i] | parse(0, 1) = 1 | typed [1-i;-3i] | parse(1, 1) = 2 | multiply(0, 1, 2) = 1 | slot 2 is [6-i]",
            "typed [x+2] | parse(0, 3) = 1 | typed [2x+1,x^6] | parse(1, 3) = 1 | multiply(0, 1, 2) = 2 | slot 2 is [2x^2+2x+2,x^7+2x^6]");
        Script.run("5 multiply, out of range", "typed [1,1,1] | parse(0, 0) = 1 | typed [1000000000;-1000000000;1000000000] | parse(1, 0) = 3",
            "multiply(0, 1, 2) = 1 | slot 2 is [1000000000] | typed [1000000000;1;-1] | parse(1, 0) = 3 | multiply(0, 1, 2) throws Arithmetic",
            "typed [50000,50000] | parse(0, 0) = 1 | typed [50000;-50000] | parse(1, 0) = 2 | multiply(0, 1, 2) throws Arithmetic",
            "typed [x^4] | parse(0, 7) = 1 | multiply(0, 0, 1) throws Arithmetic | typed [x^3] | parse(1, 7) = 1 | multiply(0, 1, 0) = 1",
            "typed [200,i] | parse(0, 1) = 1 | typed [151;200] | parse(1, 1) = 2 | multiply(0, 1, 2) throws Arithmetic",
            "typed [150;200] | parse(1, 1) = 2 | multiply(0, 1, 2) = 1 | slot 2 is [30000+200i]");
        Script.run("5 multiply, wrong", "create(0, 0, 2, 2) = 1 | create(1, 2, 2, 2) = 1 | multiply(0, 1, 2) throws IllegalState",
            "multiply(0, 2, 2) throws IllegalState | multiply(2, 0, 0) throws IllegalState | multiply(3, 0, 0) throws IndexOutOfBounds",
            "multiply(0, 3, 0) throws IndexOutOfBounds | multiply(0, 0, 3) throws IndexOutOfBounds | multiply(2, 2, -1) throws IndexOutOfBounds");
    }

    private static void readings() {
        Script.run("6 to 8 ring, rows, columns", "create(1, 5, 3, 2) = 1 | ring(1) = 5 | rows(1) = 3 | columns(1) = 2",
            "ring(3) throws IndexOutOfBounds | rows(3) throws IndexOutOfBounds | columns(3) throws IndexOutOfBounds",
            "ring(-1) throws IndexOutOfBounds | rows(-1) throws IndexOutOfBounds | columns(-1) throws IndexOutOfBounds",
            "ring(2) = -1 | rows(2) = 0 | columns(2) = 0");
        Script.run("9 entry", "typed [1-2i,3;i,-4] | parse(0, 1) = 2 | entry(0, 0, 0, 0) = 1 | entry(0, 0, 0, 1) = -2 | entry(0, 0, 1, 0) = 3",
            "entry(0, 1, 0, 0) = 0 | entry(0, 1, 0, 1) = 1 | entry(0, 1, 1, 0) = -4 | entry(0, 1, 1, 1) = 0",
            "entry(0, 2, 0, 0) throws IllegalArgument | entry(0, -1, 0, 0) throws IllegalArgument",
            "entry(0, 0, 2, 0) throws IllegalArgument | entry(0, 0, -1, 0) throws IllegalArgument",
            "entry(0, 0, 0, 2) throws IllegalArgument | entry(0, 0, 0, -1) throws IllegalArgument",
            "entry(1, 0, 0, 0) throws IllegalState | entry(1, 9, 0, 0) throws IllegalState | entry(3, 9, 9, 9) throws IndexOutOfBounds",
            "typed [2x^7+1] | parse(0, 3) = 1 | entry(0, 0, 0, 0) = 4375 | entry(0, 0, 0, 1) = 0");
    }
}
