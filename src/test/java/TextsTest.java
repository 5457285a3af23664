/** Promises 29 to 34: texts. */
public final class TextsTest {
    public static void main(String[] arguments) {
        type();
        faultOfShape();
        faultOfIntegers();
        faultOfGaussians();
        faultOfPolynomials();
        parse();
        write();
        written();
        Script.finish();
    }

    private static void type() {
        Script.run("29 type", "type(0) = 1 | type(255) = 2 | type(-1) throws IllegalArgument | type(256) throws IllegalArgument | type(91) = 3 | clearText() = 3",
            "times 119 type(49) | type(49) = 120 | type(49) throws IllegalState | type(256) throws IllegalArgument | type(-1) throws IllegalArgument | clearText() = 120 | type(50) = 1");
        Script.run("30 clearText", "clearText() = 0 | typed [1] | clearText() = 3 | clearText() = 0 | fault(0) = 0 | create(0, 0, 1, 1) = 1 | typed [7] | write(0) = 3 | clearText() = 3 | written(1) = 48");
    }

    private static void faultOfShape() {
        Script.run("31 fault", "fault(4) throws IllegalArgument | fault(-1) throws IllegalArgument | fault(0) = 0 | typed [1] | fault(0) = -1 | fault(1) = -1 | fault(7) = -1 | clearText() = 3");
        Script.run("31 fault, shape", "fault 0 of [1,2,3,4] is -1 | fault 0 of [1;2;3;4] is -1 | fault 0 of [1,2;3,4;5,6;7,8] is -1",
            "fault 0 of [ is 1 | fault 0 of 1 is 0 | fault 0 of ]1] is 0 | fault 0 of [] is 1 | fault 0 of [1 is 2 | fault 0 of [1, is 3 | fault 0 of [1; is 3",
            "fault 0 of [,1] is 1 | fault 0 of [1,] is 3 | fault 0 of [1;] is 3 | fault 0 of [1,;2] is 3 | fault 0 of [1]] is 3 | fault 0 of [1];[2] is 3");
        Script.run("31 fault, too many", "fault 0 of [1,2,3,4,5] is 8 | fault 0 of [1,2,3,4, is 8 | fault 0 of [1;2;3;4;5] is 8 | fault 0 of [1;2;3;4; is 8 | fault 0 of [1,2;3,4,5] is 8",
            "fault 0 of [1;2,3] is 4 | fault 0 of [1,2;3] is 6 | fault 0 of [1,2;3;4,5] is 6 | fault 0 of [1,2,3;4,5;6 is 10 | fault 0 of [1,2;3 is 6 | fault 0 of [1,2;3,4 is 8 | fault 0 of [1;2;3;4,5] is 8",
            "fault 0 of [1,2;3,4;5,6;7] is 14 | fault 0 of [1,2;3,4;5,6;7 is 14 | fault 0 of [1,2;3,4;5,6;7; is 14 | fault 0 of [1,2;3,4;5,6;7,8,9] is 16");
        Script.run("31 fault, blanks and other bytes", "clearText() = 0 | type(91) = 1 | type(32) = 2 | type(49) = 3 | type(93) = 4 | fault(0) = 1 | clearText() = 4",
            "type(91) = 1 | type(49) = 2 | type(32) = 3 | type(93) = 4 | fault(0) = 2 | clearText() = 4 | type(91) = 1 | type(49) = 2 | type(93) = 3 | type(0) = 4 | fault(0) = 3",
            "clearText() = 4 | type(255) = 1 | fault(0) = 0 | clearText() = 1 | type(91) = 1 | type(176) = 2 | fault(0) = 1 | fault(2) = 1 | fault(1) = 1");
        Script.run("31 fault, a full text", "typed [111111111,111111111,111111111;111111111,111111111,111111111;111111111,111111111,111111111;111111111,111111111,11111111", "fault(0) = 119 | type(93) = 120 | fault(0) = -1",
            "type(93) throws IllegalState | parse(0, 0) = 4 | columns(0) = 3 | clearText() = 0");
    }

    private static void faultOfIntegers() {
        Script.run("31 fault, integers", "fault 0 of [-5] is -1 | fault 0 of [-0] is -1 | fault 0 of [007] is -1 | fault 0 of [--5] is 2 | fault 0 of [-] is 2 | fault 0 of [- is 2 | fault 0 of [+5] is 1",
            "fault 0 of [5-] is 2 | fault 0 of [5+3] is 2 | fault 0 of [i] is 1 | fault 0 of [x] is 1 | fault 0 of [1x] is 2 | fault 0 of [-,1] is 2 | fault 0 of [1.5] is 2");
        Script.run("31 fault, long integers", "fault 0 of [1000000000] is -1 | fault 0 of [-1000000000] is -1 | fault 0 of [0000000001] is -1 | fault 0 of [1000000001] is 1 | fault 0 of [-1000000001] is 2",
            "fault 0 of [9999999999] is 1 | fault 0 of [00000000001] is 1 | fault 0 of [-00000000001] is 2 | fault 0 of [5,12345678901 is 3 | fault 0 of [5,1000000001 is 3 | fault 0 of [1000000000 is 11",
            "fault 0 of [1000000001x is 1 | fault 0 of [12345678901x is 1 | fault 0 of [1;-2000000000,5] is 4 | fault 0 of [99999999999999999999999999999999999999999 is 1");
    }

    private static void faultOfGaussians() {
        Script.run("31 fault, Gaussian", "fault 1 of [5] is -1 | fault 1 of [-5] is -1 | fault 1 of [i] is -1 | fault 1 of [-i] is -1 | fault 1 of [2i] is -1 | fault 1 of [-2i] is -1 | fault 1 of [5+i] is -1",
            "fault 1 of [-5-i] is -1 | fault 1 of [5-2i] is -1 | fault 1 of [5+02i] is -1 | fault 1 of [0+0i] is -1 | fault 1 of [30000-30000i] is -1 | fault 1 of [-30000+30000i] is -1");
        Script.run("31 fault, Gaussian, wrong", "fault 1 of [+5] is 1 | fault 1 of [--5] is 2 | fault 1 of [- is 2 | fault 1 of [-] is 2 | fault 1 of [i2] is 2 | fault 1 of [ii] is 2 | fault 1 of [2ii] is 3",
            "fault 1 of [i+5] is 2 | fault 1 of [2i+5] is 3 | fault 1 of [-i-5] is 3 | fault 1 of [5+] is 3 | fault 1 of [5+ is 3 | fault 1 of [5+2] is 4 | fault 1 of [5+2 is 4 | fault 1 of [5+2,1] is 4 | fault 1 of [5+-2i] is 3",
            "fault 1 of [5+2i+3] is 5 | fault 1 of [5-ii] is 4 | fault 1 of [x] is 1 | fault 1 of [5+2i is 5 | fault 1 of [5i is 3");
        Script.run("31 fault, Gaussian, long", "fault 1 of [30001] is 1 | fault 1 of [-30001] is 2 | fault 1 of [30001i] is 1 | fault 1 of [99999 is 1 | fault 1 of [000001] is 1 | fault 1 of [00001] is -1",
            "fault 1 of [5+30001i] is 3 | fault 1 of [5-30001] is 3 | fault 1 of [5+000001i] is 3 | fault 1 of [5+123456 is 3 | fault 1 of [30001+ is 1 | fault 1 of [i;-30001-i] is 4 | fault 1 of [123456x is 1 | fault 1 of [30000 is 6");
    }

    private static void faultOfPolynomials() {
        Script.run("31 fault, polynomials", "fault 2 of [x^7+x^6+x^5+x^4+x^3+x^2+x+1] is -1 | fault 2 of [0] is -1 | fault 3 of [2x^7+0x^5+x^1+1x^0] is -1 | fault 7 of [6x^3+6] is -1 | fault 5 of [0x] is -1 | fault 2 of [x^0] is -1",
            "fault 2 of [2] is 1 | fault 3 of [3x] is 1 | fault 5 of [4] is -1 | fault 5 of [5] is 1 | fault 7 of [7x] is 1 | fault 2 of [x+2x] is 3 | fault 2 of [11] is 2 | fault 2 of [x2] is 2 | fault 2 of [-x] is 1");
        Script.run("31 fault, exponents", "fault 2 of [x^8] is 3 | fault 2 of [x^9 is 3 | fault 2 of [x^] is 3 | fault 2 of [x^ is 3 | fault 2 of [x^x] is 3 | fault 2 of [x^22] is 4 | fault 2 of [^2] is 1 | fault 2 of [xx] is 2 | fault 2 of [1^2] is 2",
            "fault 2 of [1x^2x] is 5 | fault 2 of [x+] is 3 | fault 2 of [x+ is 3 | fault 2 of [+x] is 1 | fault 2 of [x++1] is 3 | fault 2 of [x is 2 | fault 2 of [1x is 3 | fault 2 of [x^2 is 4 | fault 2 of [i] is 1");
        Script.run("31 fault, exponents that do not decrease", "fault 2 of [x^2+x^2] is 5 | fault 2 of [x+x^2] is 3 | fault 2 of [x+x] is 3 | fault 2 of [x+x is 3 | fault 2 of [x+xa is 3 | fault 2 of [x+x^ is 5 | fault 2 of [x+x^9 is 5 | fault 2 of [x+x^a is 5",
            "fault 2 of [x+x^2 is 3 | fault 2 of [x^2+x+x^7,1] is 7 | fault 2 of [1+1] is 3 | fault 2 of [1+1 is 3 | fault 2 of [1+1x is 3 | fault 2 of [1+1x^ is 6 | fault 2 of [1+1x^3 is 3 | fault 2 of [1+11] is 3 | fault 2 of [1+] is 3 | fault 2 of [1+ is 3",
            "fault 2 of [x^0+1] is 5 | fault 2 of [x+1x^0 is 7 | fault 2 of [x,1+x,1] is 5 | fault 2 of [x;x] is -1 | fault 3 of [x^2+0x^2] is 5 | fault 3 of [x^2+0x^1] is -1 | fault 2 of [x^1+x] is 5",
            "fault 2 of [x^7+x^6+x^5+x^4+x^3+x^2+x+1+1] is 29 | fault 2 of [x^7+x^6+x^5+x^4+x^3+x^2+x+1+ is 29 | fault 2 of [x+x] is 3 | fault 7 of [x+3x is 3 | fault 7 of [x+3x^1 is 3");
    }

    private static void parse() {
        Script.run("32 parse", "typed [-1,002;30,-0] | parse(0, 0) = 2 | slot 0 is [-1,2;30,0] | rows(0) = 2 | columns(0) = 2 | clearText() = 0 | steps(0) = 0 | entryAfter(0, 0, 0, 1, 0) = 2",
            "hermite(0) = 2 | typed [1;2;5] | parse(0, 5) throws IllegalState", "clearText() = 7 | typed [1;2;3] | parse(0, 5) = 3 | ring(0) = 5 | steps(0) = 0 | columns(0) = 1");
        Script.run("32 parse, Gaussian", "typed [-5+2i,-i,7,-3i;2-i,0i,-0-0i,i] | parse(1, 1) = 2 | slot 1 is [-5+2i,-i,7,-3i;2-i,0,0,i] | entry(1, 0, 0, 0) = -5 | entry(1, 0, 0, 1) = 2 | entry(1, 0, 3, 1) = -3 | entry(1, 1, 0, 1) = -1");
        Script.run("32 parse, polynomials", "typed [6x^7+5x^1+4x^0,x] | parse(2, 7) = 1 | entry(2, 0, 0, 0) = 4941297 | entry(2, 0, 1, 0) = 7 | slot 2 is [6x^7+5x+4,x] | typed [0x^5+0,x^0] | parse(2, 7) = 1 | slot 2 is [0,1]");
        Script.run("32 parse, wrong", "parse(0, 0) throws IllegalState | typed [1,2;3] | parse(0, 0) throws IllegalState | parse(0, 4) throws IllegalArgument | parse(3, 4) throws IndexOutOfBounds | parse(3, 0) throws IndexOutOfBounds",
            "parse(-1, 0) throws IndexOutOfBounds | ring(0) = -1 | clearText() = 7 | typed [i] | parse(0, 0) throws IllegalState | parse(0, 1) = 1 | parse(0, 1) throws IllegalState | slot 0 is [i]");
    }

    private static void write() {
        Script.run("33 write", "create(0, 0, 2, 2) = 1 | set(0, 0, 0, -1000000000, 0) = 0 | set(0, 0, 1, 1000000000, 0) = 0 | set(0, 1, 0, 10, 0) = 0 | slot 0 is [-1000000000,1000000000;10,0]",
            "write(1) throws IllegalState | write(3) throws IndexOutOfBounds | write(-1) throws IndexOutOfBounds | written(0) = 91 | clearText() = 0");
        Script.run("33 write, Gaussian", "create(0, 1, 4, 4) = 1 | set(0, 0, 1, 5, 0) = 0 | set(0, 0, 2, -5, 0) = 0 | set(0, 0, 3, 0, 1) = 0 | set(0, 1, 0, 0, -1) = 0 | set(0, 1, 1, 0, 2) = 0 | set(0, 1, 2, 5, 1) = 0",
            "set(0, 1, 3, 5, -2) = 0 | set(0, 2, 0, -5, -1) = 0 | set(0, 2, 1, -30000, -30000) = 0 | set(0, 2, 2, -1, 30000) = 0 | set(0, 2, 3, 0, -10) = 0 | set(0, 3, 0, 1, 1) = 0",
            "slot 0 is [0,5,-5,i;-i,2i,5+i,5-2i;-5-i,-30000-30000i,-1+30000i,-10i;1+i,0,0,0]");
        Script.run("33 write, polynomials", "create(0, 7, 2, 3) = 1 | set(0, 0, 0, 1, 0) = 0 | set(0, 0, 1, 6, 0) = 0 | set(0, 0, 2, 7, 0) = 0 | set(0, 1, 0, 50, 0) = 0 | set(0, 1, 1, 5764800, 0) = 0 | set(0, 1, 2, 823543, 0) = 0",
            "slot 0 is [1,6,x;x^2+1,6x^7+6x^6+6x^5+6x^4+6x^3+6x^2+6x+6,x^7]");
        StringBuilder sets = new StringBuilder("create(0, 7, 4, 4) = 1");
        for (int k = 0; k < 16; k++) {
            sets.append(" | set(0, ").append(k / 4).append(", ").append(k % 4).append(", 5764800, 0) = 0");
        }
        Script.run("33 write, the longest text", sets.toString(), "write(0) = 561 | written(560) = 93 | written(559) = 54 | written(561) throws IndexOutOfBounds");
    }

    private static void written() {
        Script.run("34 written", "written(0) throws IndexOutOfBounds | typed [1,x] | parse(0, 2) = 1 | written(0) throws IndexOutOfBounds | write(0) = 5 | written(0) = 91 | written(1) = 49 | written(2) = 44 | written(3) = 120",
            "written(4) = 93 | written(5) throws IndexOutOfBounds | written(-1) throws IndexOutOfBounds | typed [0] | parse(0, 2) = 1 | written(4) = 93 | write(0) = 3 | written(1) = 48 | written(3) throws IndexOutOfBounds",
            "written(4) throws IndexOutOfBounds | written(2147483647) throws IndexOutOfBounds | written(-2147483648) throws IndexOutOfBounds");
    }
}
