/** The boundary cases of the document's "Terms" about texts: the grammar, the faults, and how a matrix is written. */
final class TextBoundaries {
    private static final int T = Sentences.TERMS;
    /** 118 bytes, to which a digit and "]" can still be added. */
    private static final String LONG = "[111111111,111111111,111111111;111111111,111111111,111111111;111111111,111111111,111111111;111111111,111111111,1111111";

    private TextBoundaries() {
    }

    static void run() {
        shape();
        grammar();
        numbers();
        polynomials();
        faults();
        numberFaults();
        termFaults();
        shapeFaults();
        earlyEnds();
        written();
    }

    private static void shape() {
        String most = "A matrix can be given as a text of at most 120 bytes with the following grammar, where the element depends on the "
            + "ring.";
        Sentences.test(T, most, "typed " + LONG,
            "type(49) = 119 | fault(0) = 119 | type(93) = 120 | fault(0) = -1 | type(93) throws IllegalState | "
            + "type(48) throws IllegalState | parse(0, 0) = 4 | columns(0) = 3 | entry(0, 3, 2, 0) = 11111111 | clearText() = 0");
        // One byte more would be needed.
        Sentences.test(T, most, "typed " + LONG,
            "type(49) = 119 | type(49) = 120 | fault(0) = 120 | type(93) throws IllegalState | parse(0, 0) throws IllegalState | "
            + "clearText() = 120 | typed [5] | parse(0, 0) = 1");
        Sentences.test(T, most, "fault 0 of [5] is -1 | fault 1 of [5] is -1 | fault 7 of [5] is -1 | fault 5 of [5] is 1 | "
            + "fault 0 of [i] is 1 | fault 1 of [i] is -1 | fault 2 of [i] is 1 | fault 0 of [x] is 1 | fault 1 of [x] is 1 | "
            + "fault 2 of [x] is -1",
            "fault 0 of [-1] is -1 | fault 1 of [-1] is -1 | fault 7 of [-1] is 1 | fault 0 of [12] is -1 | fault 1 of [12] is -1 | "
            + "fault 7 of [12] is 2 | fault 0 of [1+i] is 2 | fault 1 of [1+i] is -1 | fault 2 of [1+i] is 3 | fault 2 of [x+1] is -1");
        String sizes = "The matrix has 1 to 4 rows with equally many elements, 1 to 4.";
        for (int size = 0; size < 36; size++) {
            int rows = size / 6;
            int columns = size % 6;
            StringBuilder text = new StringBuilder("[");
            for (int k = 0; k < rows * columns; k++) {
                text.append(k == 0 ? "" : k % columns == 0 ? ";" : ",").append("1");
            }
            text.append("]");
            // Behind the fourth element of the first row a comma has the fault, behind the fourth row a semicolon.
            int fault = rows == 0 || columns == 0 ? 1 : columns > 4 ? 8 : rows > 4 ? 8 * columns : -1;
            String parsed = fault < 0 ? "parse(1, 0) = " + rows + " | rows(1) = " + rows + " | columns(1) = " + columns : "parse(1, 0) throws IllegalState";
            Sentences.test(T, sizes, "typed " + text + " | fault(0) = " + fault + " | " + parsed);
        }
        Sentences.test(T, sizes, "fault 0 of [1,2;3] is 6 | fault 0 of [1;2,3] is 4 | fault 0 of [1,2;3,4;5] is 10 | "
            + "fault 0 of [1,2;3,4;5,6;7] is 14 | fault 0 of [1;2;3;4,5] is 8 | fault 0 of [1,2,3,4;5,6,7] is 14");
        Sentences.test(T, "There are no blanks.",
            "fault 0 of [ 1] is 1 | fault 0 of [1 ] is 2 | fault 0 of [1, 2] is 3 | fault 0 of [1 ,2] is 2 | fault 0 of [1; 2] is 3 | "
            + "fault 0 of [1 ;2] is 2 | fault 0 of [- 1] is 2 | fault 0 of [1 2] is 2",
            "fault 1 of [1 +i] is 2 | fault 1 of [1+ i] is 3 | fault 1 of [1+2 i] is 4 | fault 1 of [2 i] is 2 | fault 1 of [- i] is 2 | "
            + "fault 7 of [2 x] is 2 | fault 7 of [x ^2] is 2 | fault 7 of [x^ 2] is 3 | fault 7 of [x +1] is 2 | fault 7 of [x+ 1] is 3",
            "type(32) = 1 | typed [1] | fault(0) = 0 | parse(0, 0) throws IllegalState | clearText() = 4 | typed [1] | type(32) = 4 | "
            + "fault(0) = 3 | clearText() = 4 | typed [1] | type(10) = 4 | fault(0) = 3 | clearText() = 4 | type(91) = 1 | type(9) = 2 | "
            + "fault(0) = 1");
    }

    private static void grammar() {
        Sentences.test(T, "matrix = \"[\" row { \";\" row } \"]\"",
            "fault 0 of [1] is -1 | fault 0 of [1;2] is -1 | fault 0 of [1;2;3;4] is -1 | fault 0 of 1] is 0 | fault 0 of [] is 1 | "
            + "fault 0 of [;1] is 1 | fault 0 of [1;] is 3 | fault 0 of [1;;2] is 3 | fault 0 of [[1]] is 1",
            "fault 0 of [1 is 2 | fault 0 of (1) is 0 | fault 0 of {1} is 0 | fault 0 of [1) is 2 | fault 0 of [1[ is 2");
        Sentences.test(T, "row = element { \",\" element }",
            "fault 0 of [1,2] is -1 | fault 0 of [1,2,3,4] is -1 | fault 0 of [,1] is 1 | fault 0 of [1,] is 3 | fault 0 of [1,,2] is 3 | "
            + "fault 0 of [1,;2] is 3 | fault 0 of [1.2] is 2 | fault 0 of [1:2] is 2");
        Sentences.test(T, "integer = [ \"-\" ] number",
            "fault 0 of [-1] is -1 | fault 0 of [-0] is -1 | fault 0 of [--1] is 2 | fault 0 of [+1] is 1 | fault 0 of [-] is 2 | "
            + "fault 0 of [1-] is 2 | fault 0 of [1-1] is 2 | fault 0 of [1+1] is 2 | fault 0 of [-,1] is 2 | fault 0 of [-;1] is 2",
            "fault 0 of [1i] is 2 | fault 0 of [1x] is 2 | fault 0 of [/] is 1 | fault 0 of [:] is 1 | fault 0 of [0] is -1 | "
            + "fault 0 of [9] is -1 | fault 0 of [a] is 1");
        Sentences.test(T, "Gaussian = [ \"-\" ] ( number [ \"i\" ] | \"i\" | number ( \"+\" | \"-\" ) [ number ] \"i\" )",
            "fault 1 of [5] is -1 | fault 1 of [-5] is -1 | fault 1 of [5i] is -1 | fault 1 of [-5i] is -1 | fault 1 of [i] is -1 | "
            + "fault 1 of [-i] is -1 | fault 1 of [5+i] is -1 | fault 1 of [5-i] is -1 | fault 1 of [-5+i] is -1 | "
            + "fault 1 of [-5-i] is -1 | fault 1 of [5+2i] is -1 | fault 1 of [-5-2i] is -1",
            "fault 1 of [--5] is 2 | fault 1 of [+i] is 1 | fault 1 of [-] is 2 | fault 1 of [-+i] is 2 | fault 1 of [ii] is 2 | "
            + "fault 1 of [i5] is 2 | fault 1 of [i+5] is 2 | fault 1 of [-i+5] is 3 | fault 1 of [5i+2] is 3 | fault 1 of [5i-i] is 3 | "
            + "fault 1 of [5ii] is 3",
            "fault 1 of [5+] is 3 | fault 1 of [5-] is 3 | fault 1 of [5++i] is 3 | fault 1 of [5+-i] is 3 | fault 1 of [5--i] is 3 | "
            + "fault 1 of [5+2] is 4 | fault 1 of [5-2,1] is 4 | fault 1 of [5-2;1] is 4 | fault 1 of [5+2+i] is 4 | "
            + "fault 1 of [5+ii] is 4 | fault 1 of [5+2ii] is 5 | fault 1 of [5+2i3] is 5",
            "fault 1 of [5+i-i] is 4 | fault 1 of [5+I] is 3 | fault 1 of [j] is 1 | fault 1 of [h] is 1 | fault 1 of [5*i] is 2 | "
            + "fault 1 of [5,i] is -1");
        Sentences.test(T, "polynomial = term { \"+\" term }",
            "fault 2 of [x] is -1 | fault 2 of [x+1] is -1 | fault 2 of [x^7+x^6+x^5+x^4+x^3+x^2+x+1] is -1 | fault 2 of [+x] is 1 | "
            + "fault 2 of [x+] is 3 | fault 2 of [x++1] is 3 | fault 2 of [x-1] is 2 | fault 2 of [-x] is 1 | fault 2 of [x1] is 2",
            "fault 2 of [xx] is 2 | fault 2 of [x+,1] is 3 | fault 2 of [x+;1] is 3 | fault 2 of [x,+1] is 3 | fault 2 of [X] is 1 | "
            + "fault 2 of [w] is 1 | fault 2 of [y] is 1");
        Sentences.test(T, "term = digit | [ digit ] \"x\" [ \"^\" digit ]",
            "fault 3 of [2] is -1 | fault 3 of [x] is -1 | fault 3 of [2x] is -1 | fault 3 of [x^2] is -1 | fault 3 of [2x^2] is -1 | "
            + "fault 3 of [] is 1 | fault 3 of [^2] is 1 | fault 3 of [2^2] is 2 | fault 3 of [22] is 2 | fault 3 of [22x] is 2",
            "fault 3 of [x^] is 3 | fault 3 of [x^/] is 3 | fault 3 of [x^:] is 3 | fault 3 of [x^x] is 3 | fault 3 of [x^22] is 4 | "
            + "fault 3 of [x^2x] is 4 | fault 3 of [x^2^2] is 4 | "
            + "fault 3 of [x2] is 2 | fault 3 of [x^+1] is 3 | fault 3 of [2xx] is 3 | fault 3 of [2x2] is 3 | fault 3 of [x_2] is 2 | "
            + "fault 3 of [x]2] is 3");
    }

    private static void numbers() {
        String digits = "A number has 1 to 10 digits for integers, and 1 to 5 digits for Gaussian integers.";
        Sentences.test(T, digits, "fault 0 of [0] is -1 | fault 0 of [0000000001] is -1 | fault 0 of [00000000001] is 1 | "
            + "fault 0 of [-0000000000] is -1 | fault 0 of [-00000000000] is 2 | fault 0 of [1000000000] is -1 | "
            + "fault 0 of [01000000000] is 1 | fault 0 of [-] is 2",
            "typed [0000000007,-0000000008] | parse(0, 0) = 1 | slot 0 is [7,-8]");
        Sentences.test(T, digits, "fault 1 of [00001] is -1 | fault 1 of [000001] is 1 | fault 1 of [-00000] is -1 | "
            + "fault 1 of [-000000] is 2 | fault 1 of [00001i] is -1 | fault 1 of [000001i] is 1 | fault 1 of [00001+00001i] is -1 | "
            + "fault 1 of [00001+000001i] is 7 | fault 1 of [1-000001i] is 3 | fault 1 of [1+i] is -1",
            "typed [00007-00008i,-00009i] | parse(0, 1) = 1 | slot 0 is [7-8i,-9i]");
        Sentences.test(T, "A leading \"-\" changes only the sign of the first number (or of the i behind it).",
            "typed [-5+2i,-5-2i,5-2i,-5+i] | parse(0, 1) = 1 | entry(0, 0, 0, 0) = -5 | entry(0, 0, 0, 1) = 2 | entry(0, 0, 1, 0) = -5 | "
            + "entry(0, 0, 1, 1) = -2 | entry(0, 0, 2, 0) = 5 | entry(0, 0, 2, 1) = -2 | entry(0, 0, 3, 0) = -5 | entry(0, 0, 3, 1) = 1",
            "typed [-i,-7i,-0+i,-0-i] | parse(0, 1) = 1 | entry(0, 0, 0, 0) = 0 | entry(0, 0, 0, 1) = -1 | entry(0, 0, 1, 0) = 0 | "
            + "entry(0, 0, 1, 1) = -7 | entry(0, 0, 2, 0) = 0 | entry(0, 0, 2, 1) = 1 | entry(0, 0, 3, 1) = -1 | typed [-5,5] | "
            + "parse(0, 0) = 1 | entry(0, 0, 0, 0) = -5 | entry(0, 0, 1, 0) = 5",
            "typed [-0] | parse(0, 0) = 1 | slot 0 is [0] | typed [-0i,-0-0i,7-0i] | parse(0, 1) = 1 | slot 0 is [0,0,7]");
    }

    private static void polynomials() {
        String sentence = "In a polynomial a digit before x, or alone, is a coefficient, from 0 to p - 1 (1 if it is missing), a digit "
            + "behind ^ is an exponent from 0 to 7; x alone has the exponent 1, a digit alone 0.";
        for (int p : new int[] {2, 3, 5, 7}) {
            int last = p - 1;
            Sentences.test(T, sentence, "fault " + p + " of [" + last + "] is -1 | fault " + p + " of [" + p + "] is 1 | fault " + p + " of [" + last + "x] is -1 | "
                + "fault " + p + " of [" + p + "x] is 1 | fault " + p + " of [x+" + last + "] is -1 | fault " + p + " of [x+" + p + "] is 3",
                "fault " + p + " of [9] is 1 | fault " + p + " of [0] is -1 | fault " + p + " of [0x^7+0] is -1 | fault " + p + " of [x^7+" + p + "x^6] is 5 | "
                + "fault " + p + " of [" + last + "x^7] is -1 | fault " + p + " of [" + p + " is 1",
                "fault " + p + " of [x^0] is -1 | fault " + p + " of [x^7] is -1 | fault " + p + " of [x^8] is 3 | fault " + p + " of [x^9] is 3 | "
                + "fault " + p + " of [1x^8 is 4 | fault " + p + " of [x^7+x^8] is 7 | fault " + p + " of [x^" + p + "] is -1");
        }
        Sentences.test(T, sentence, "typed [x,1x,x^1,1x^1] | parse(0, 5) = 1 | slot 0 is [x,x,x,x] | typed [1,x^0,1x^0,4x^0] | "
            + "parse(0, 5) = 1 | slot 0 is [1,1,1,4] | typed [x^7,4x^7,0x^7,0x] | parse(0, 5) = 1 | slot 0 is [x^7,4x^7,0,0]",
            "typed [x^2+3,2x+1,x+x^0] | parse(0, 5) = 1 | slot 0 is [x^2+3,2x+1,x+1]");
        Sentences.test(T, "The exponents must decrease from term to term.",
            "fault 2 of [x^7+x^6] is -1 | fault 2 of [x^7+x^7] is 5 | fault 2 of [x^6+x^7] is 5 | fault 2 of [x^7+1] is -1 | "
            + "fault 2 of [x^2+x] is -1 | fault 2 of [x+x^2] is 3 | fault 2 of [x+x] is 3 | fault 2 of [x^1+x] is 5 | "
            + "fault 2 of [x+x^1] is 3",
            "fault 2 of [1+1] is 3 | fault 2 of [1+x] is 3 | fault 2 of [x^0+1] is 5 | fault 2 of [1+x^0] is 3 | "
            + "fault 2 of [x+x^0] is -1 | fault 2 of [x^3+x^2+x^2+1] is 9 | fault 2 of [x^3+x+x^2] is 7 | fault 2 of [0x+0x] is 4 | "
            + "fault 3 of [2x+x] is 4",
            // From element to element they may do as they like.
            "fault 2 of [1,x] is -1 | fault 2 of [1;x] is -1 | fault 2 of [x,x] is -1 | fault 2 of [x+1,x^2] is -1");
    }

    private static void faults() {
        String sentence = "The fault of a text is the index, from 0, of the first byte that cannot stand at its place, in a text that is "
            + "read from left to right;";
        Sentences.test(T, sentence, "fault(0) = 0 | fault 0 of ] is 0 | fault 0 of 5 is 0 | fault 0 of []] is 1 | fault 0 of [1]1 is 3 | "
            + "fault 0 of [1,a,b] is 3 | fault 0 of [1a,2b] is 2 | fault 1 of [a,99999] is 1 | fault 0 of [a,1000000001] is 1 | "
            + "fault 0 of [1000000001,a] is 1",
            "fault 2 of [x^9,x+x] is 3 | fault 2 of [x+x,x^9] is 3 | fault 0 of [1,2,3,4,a is 8 | fault 0 of [1,2;3]a is 6");
        for (int code : new int[] {0, 9, 10, 13, 32, 47, 58, 64, 73, 88, 127, 128, 171, 176, 219, 221, 248, 255}) {
            // No such byte can stand anywhere, not even those that are like a byte that can, but for 128.
            Sentences.test(T, sentence, "type(" + code + ") = 1 | fault(0) = 0 | fault(1) = 0 | fault(7) = 0 | clearText() = 1 | "
                + "type(91) = 1 | type(" + code + ") = 2 | fault(0) = 1 | fault(1) = 1 | fault(7) = 1 | parse(0, 0) throws IllegalState",
                "clearText() = 2 | typed [1 | type(" + code + ") = 3 | fault(0) = 2 | fault(1) = 2 | fault(7) = 2 | clearText() = 3 | "
                + "typed [1] | type(" + code + ") = 4 | fault(0) = 3 | fault(1) = 3 | fault(7) = 3");
        }
    }

    private static void numberFaults() {
        String sentence = "with these details: a number with too many digits, or with which the integer or a part of the Gaussian integer "
            + "is out of range, is a fault at its first digit;";
        Sentences.test(T, sentence, "fault 0 of [1000000000] is -1 | fault 0 of [1000000001] is 1 | fault 0 of [-1000000000] is -1 | "
            + "fault 0 of [-1000000001] is 2 | fault 0 of [9999999999] is 1 | fault 0 of [-9999999999] is 2 | "
            + "fault 0 of [2147483648] is 1 | fault 0 of [4294967296] is 1 | fault 0 of [4294967297] is 1",
            "fault 0 of [10000000000] is 1 | fault 0 of [00000000000] is 1 | fault 0 of [5,10000000000] is 3 | "
            + "fault 0 of [5;-1000000001] is 4 | fault 0 of [1000000001 is 1 | fault 0 of [-1000000001 is 2 | "
            + "fault 0 of [1000000001a is 1 | fault 0 of [10000000000 is 1 | fault 0 of [100000000000000000000000000] is 1",
            // 2 to the 64, and more than that by 1.
            "fault 0 of [18446744073709551616] is 1 | fault 0 of [18446744073709551617] is 1 | fault 0 of [1000000000 is 11 | "
            + "fault 0 of [100000000 is 10 | fault 0 of [1000000001,a] is 1");
        Sentences.test(T, sentence, "fault 1 of [30000] is -1 | fault 1 of [30001] is 1 | fault 1 of [-30000] is -1 | "
            + "fault 1 of [-30001] is 2 | fault 1 of [30000i] is -1 | fault 1 of [30001i] is 1 | fault 1 of [-30001i] is 2 | "
            + "fault 1 of [1+30000i] is -1 | fault 1 of [1+30001i] is 3 | fault 1 of [1-30000i] is -1 | fault 1 of [1-30001i] is 3",
            "fault 1 of [30001+1i] is 1 | fault 1 of [-30001+40000i] is 2 | fault 1 of [99999] is 1 | fault 1 of [100000] is 1 | "
            + "fault 1 of [000000] is 1 | fault 1 of [1+100000i] is 3 | fault 1 of [1+99999i] is 3 | fault 1 of [65536] is 1 | "
            + "fault 1 of [4294967297] is 1",
            "fault 1 of [30001 is 1 | fault 1 of [1+30001 is 3 | fault 1 of [1+30001] is 3 | fault 1 of [1+30001a is 3 | "
            + "fault 1 of [1+100000 is 3 | fault 1 of [30000 is 6 | fault 1 of [1+30000 is 8 | fault 1 of [1+30000] is 8 | "
            + "fault 1 of [2;1,30001] is 4 | fault 1 of [2,30001] is 3");
    }

    private static void termFaults() {
        String sentence = "a term whose exponent does not decrease, but which is complete (the next byte is not a part of it, or there is "
            + "none), is a fault at its first byte.";
        Sentences.test(T, sentence, "fault 2 of [x+x] is 3 | fault 2 of [x+x, is 3 | fault 2 of [x+x+ is 3 | fault 2 of [x+x; is 3 | "
            + "fault 2 of [x+xa is 3 | fault 2 of [x+xx is 3 | fault 2 of [x+x1 is 3 | fault 2 of [x+x is 3 | fault 2 of [x+1x is 3 | "
            + "fault 2 of [x+1x] is 3",
            "fault 2 of [x^2+x^2] is 5 | fault 2 of [x^2+x^2 is 5 | fault 2 of [x^2+x^22] is 5 | fault 2 of [x^2+x^2x] is 5 | "
            + "fault 2 of [x^2+x^3+x] is 5 | fault 2 of [x^2+1x^7] is 5 | fault 2 of [1+1] is 3 | fault 2 of [1+1 is 3 | "
            + "fault 2 of [1+11] is 3 | fault 2 of [1+1^ is 3 | fault 2 of [1+0x] is 3");
        // A term that is not complete has the fault where it goes wrong or ends.
        Sentences.test(T, sentence, "fault 2 of [x+x^ is 5 | fault 2 of [x+x^] is 5 | fault 2 of [x+x^8] is 5 | fault 2 of [x+x^a is 5 | "
            + "fault 2 of [x+x^+ is 5 | fault 2 of [1+1x^ is 6 | fault 2 of [1+1x^] is 6 | fault 2 of [1+1x^9 is 6 | "
            + "fault 2 of [1+x^ is 5 | fault 2 of [1+ is 3 | fault 2 of [1+] is 3 | fault 2 of [1+2 is 3",
            // With ^ the exponent can still be lower.
            "fault 2 of [x+x^0] is -1 | fault 2 of [x+1x^0] is -1 | fault 2 of [x+x^0 is 6 | fault 2 of [x+x^1 is 3 | "
            + "fault 2 of [x^2+x^1] is -1 | fault 2 of [x^2+x is 6 | fault 2 of [x^2+x^ is 7");
        // Behind the eighth term the exponent is 0, and no other can follow.
        Sentences.test(T, sentence, "fault 2 of [x^7+x^6+x^5+x^4+x^3+x^2+x+1+1] is 29 | fault 2 of [x^7+x^6+x^5+x^4+x^3+x^2+x+1+ is 29 | "
            + "fault 2 of [x^7+x^6+x^5+x^4+x^3+x^2+x+1+x^ is 31 | fault 2 of [x^7+x^6+x^5+x^4+x^3+x^2+x+1+x^0 is 29");
    }

    private static void shapeFaults() {
        Sentences.test(T, "A comma cannot stand behind the fourth element of a row, nor behind an element of a later row that is the last "
            + "one by the first row;",
            "fault 0 of [1,2,3,4,5] is 8 | fault 0 of [1,2,3,4, is 8 | fault 0 of [1,2,3,4] is -1 | fault 0 of [1,2,3,4;5,6,7,8,9] is 16 | "
            + "fault 0 of [1,2,3,4;5,6,7,8, is 16 | fault 0 of [1;2, is 4 | fault 0 of [1;2,3] is 4 | fault 0 of [1,2;3,4,5] is 8",
            "fault 0 of [1,2,3;4,5,6,7] is 12 | fault 0 of [1,2;3,4;5,6;7,8,9] is 16 | fault 0 of [1;2;3;4,5] is 8 | "
            + "fault 1 of [i,i,i,i,i] is 8 | fault 7 of [x,x,x,x,x] is 8 | fault 7 of [x;x,x] is 4");
        Sentences.test(T, "a semicolon or \"]\" cannot stand where the row has fewer elements than the first one;",
            "fault 0 of [1,2;3] is 6 | fault 0 of [1,2;3;4,5] is 6 | fault 0 of [1,2,3;4,5] is 10 | fault 0 of [1,2,3;4,5;6] is 10 | "
            + "fault 0 of [1,2,3,4;5] is 10",
            "fault 0 of [1,2;3,4;5] is 10 | fault 0 of [1,2;3,4;5,6;7] is 14 | fault 0 of [1,2;3,4;5,6;7; is 14 | "
            + "fault 0 of [1,2;3,4] is -1 | fault 1 of [i,i;i] is 6 | fault 7 of [x,x;x;x] is 6 | fault 0 of [1,2;] is 5 | "
            + "fault 0 of [1,2;3,] is 7");
        Sentences.test(T, "a semicolon cannot stand behind the fourth row;",
            "fault 0 of [1;2;3;4] is -1 | fault 0 of [1;2;3;4;5] is 8 | fault 0 of [1;2;3;4; is 8 | fault 0 of [1;2;3;4;] is 8 | "
            + "fault 0 of [1,2;3,4;5,6;7,8;9,0] is 16 | fault 0 of [1,2;3,4;5,6;7;8] is 14 | fault 1 of [i;i;i;i;i] is 8 | "
            + "fault 7 of [x;x;x;x;x] is 8");
        Sentences.test(T, "nothing can stand behind \"]\".",
            "fault 0 of [1]] is 3 | fault 0 of [1]; is 3 | fault 0 of [1], is 3 | fault 0 of [1][1] is 3 | fault 0 of [1]1 is 3 | "
            + "fault 0 of [1]- is 3 | fault 0 of [1;2;3;4]5 is 9 | fault 0 of [1,2,3,4]] is 9 | fault 1 of [i]i is 3 | "
            + "fault 7 of [x]+ is 3 | fault 7 of [x]^ is 3",
            "typed [1] | fault(0) = -1 | type(0) = 4 | fault(0) = 3 | parse(0, 0) throws IllegalState");
    }

    private static void earlyEnds() {
        String sentence = "If the text ends too early, the fault is its length.";
        Sentences.test(T, sentence, "fault(0) = 0 | fault(1) = 0 | fault(2) = 0 | fault(7) = 0 | parse(0, 0) throws IllegalState | "
            + "fault 0 of [ is 1 | fault 0 of [- is 2 | fault 0 of [1 is 2 | fault 0 of [12 is 3 | fault 0 of [1, is 3 | "
            + "fault 0 of [1; is 3 | fault 0 of [1,2 is 4 | fault 0 of [1;2 is 4 | fault 0 of [1,2;3 is 6 | fault 0 of [1,2;3,4 is 8",
            "fault 0 of [1,2,3,4 is 8 | fault 0 of [1;2;3;4 is 8 | fault 0 of [1,2;3,4;5,6;7 is 14 | fault 0 of [1,2;3,4;5,6;7, is 15 | "
            + "fault 0 of [1,2;3,4;5,6;7,8 is 16 | fault 0 of [1000000000 is 11 | fault 1 of [ is 1 | fault 1 of [- is 2 | "
            + "fault 1 of [i is 2 | fault 1 of [-i is 3 | fault 1 of [5i is 3 | fault 1 of [5+ is 3 | fault 1 of [5- is 3 | "
            + "fault 1 of [5+2 is 4 | fault 1 of [5+i is 4 | fault 1 of [5+2i is 5 | fault 1 of [i, is 3",
            "fault 7 of [ is 1 | fault 7 of [6 is 2 | fault 7 of [x is 2 | fault 7 of [6x is 3 | fault 7 of [x^ is 3 | "
            + "fault 7 of [x^7 is 4 | fault 7 of [x+ is 3 | fault 7 of [x+1 is 4 | fault 7 of [x; is 3 | fault 7 of [x, is 3");
    }

    private static void written() {
        String shortest = "A matrix is written as a text with the same grammar, in the shortest way: numbers without leading zeros;";
        Sentences.test(T, shortest, "typed [007,-0000000008,0000000000,-0] | parse(0, 0) = 1 | slot 0 is [7,-8,0,0]",
            "create(0, 0, 4, 4) = 0 | slot 0 is [0,0,0,0;0,0,0,0;0,0,0,0;0,0,0,0] | write(0) = 33",
            "typed [-1000000000,1000000000;-999999999,10] | parse(0, 0) = 2 | slot 0 is [-1000000000,1000000000;-999999999,10]",
            "typed [9,10,99;100,101,-10] | parse(0, 0) = 2 | slot 0 is [9,10,99;100,101,-10]",
            "typed [1;2;3;4] | parse(0, 0) = 4 | slot 0 is [1;2;3;4]");
        Sentences.test(T, "Gaussian integers as 0, 5, -5, i, -i, 2i, 5+i, 5-2i and so on;",
            "typed [0,5,-5,i;-i,2i,5+i,5-2i] | parse(0, 1) = 2 | slot 0 is [0,5,-5,i;-i,2i,5+i,5-2i]",
            "typed [0+0i,0+i,0-i,0+1i;1i,-1i,1+0i,1-1i] | parse(0, 1) = 2 | slot 0 is [0,i,-i,i;i,-i,1,1-i]",
            "typed [30000+30000i,-30000-30000i] | parse(0, 1) = 1 | slot 0 is [30000+30000i,-30000-30000i]",
            "typed [-1+i,-1-i,-2i;10i,-10i,-1] | parse(0, 1) = 2 | slot 0 is [-1+i,-1-i,-2i;10i,-10i,-1]");
        Sentences.test(T, "polynomials with the terms that are not 0, by descending exponents, without a coefficient 1 (but 1 with the "
            + "exponent 0), without ^1, and x^0 left out; 0 as 0.",
            "typed [1x^7+0x^6+1x^1+1x^0] | parse(0, 2) = 1 | slot 0 is [x^7+x+1] | typed [0x^7+0x+0,0,0x^0,1x^0] | parse(0, 2) = 1 | "
            + "slot 0 is [0,0,0,1] | typed [2x^2+2x^1+2x^0,2x^0,2x^1] | parse(0, 3) = 1 | slot 0 is [2x^2+2x+2,2,2x]",
            "typed [6x^7+6x^6+6x^5+6x^4+6x^3+6x^2+6x+6,x] | parse(0, 7) = 1 | slot 0 is [6x^7+6x^6+6x^5+6x^4+6x^3+6x^2+6x+6,x]",
            "create(0, 5, 1, 2) = 0 | slot 0 is [0,0] | set(0, 0, 0, 390624, 0) = 0 | slot 0 is [4x^7+4x^6+4x^5+4x^4+4x^3+4x^2+4x+4,0]");
    }
}
