/** The boundary cases of the promises 29 to 34: the calls about texts. */
final class TextCallBoundaries {
    private static final String NO_SLOT = "Throws `IndexOutOfBoundsException` if there is no such slot";
    private static final Object[] NO_RINGS = {-1, 4, 6, 8, 9, Integer.MIN_VALUE, Integer.MAX_VALUE};

    private TextCallBoundaries() {
    }

    static void run() {
        type();
        clearText();
        fault();
        parse();
        parseThrows();
        write();
        written();
    }

    private static void type() {
        Sentences.test(29, "Appends a byte to the text.",
            "type(91) = 1 | type(55) = 2 | type(93) = 3 | fault(0) = -1 | parse(0, 0) = 1 | slot 0 is [7] | type(91) = 1 | type(54) = 2 | "
            + "type(93) = 3 | type(93) = 4 | fault(0) = 3");
        Sentences.test(29, "- `code`: 0 to 255",
            Sentences.each("type(#", "0) = 1", "1) = 2", "127) = 3", "128) = 4", "254) = 5",
            "255) = 6"),
            Sentences.each("type(#) throws IllegalArgument", -1, 256, 257, 347, -165, Integer.MIN_VALUE, Integer.MAX_VALUE));
        Sentences.test(29, "Returns the length of the text then.",
            "type(91) = 1 | type(91) = 2 | clearText() = 2 | type(91) = 1 | times 118 type(49) | type(93) = 120 | "
            + "type(93) throws IllegalState | clearText() = 120 | type(93) = 1");
        Sentences.test(29, "Throws `IllegalArgumentException` if code is out of range",
            Sentences.each("type(#) throws IllegalArgument", -1,
            256, Integer.MIN_VALUE, Integer.MAX_VALUE), "times 119 type(91)",
                Sentences.each("type(#) throws IllegalArgument", -1, 256),
            "type(91) = 120",
            Sentences.each("type(#) throws IllegalArgument", -1, 256, Integer.MIN_VALUE, Integer.MAX_VALUE));
        Sentences.test(29, "Throws `IllegalStateException` if the text has 120 bytes", "times 119 type(49) | type(49) = 120",
            Sentences.each("type(#) throws IllegalState", 0, 49, 255), "fault(0) = 0 | clearText() = 120 | type(49) = 1");
    }

    private static void clearText() {
        Sentences.test(30, "Empties the text.",
            "typed [1] | fault(0) = -1 | clearText() = 3 | fault(0) = 0 | parse(0, 0) throws IllegalState | typed [2] | parse(0, 0) = 1 | "
            + "slot 0 is [2]",
            // Only the text: not the slots and not what is written.
            "typed [3 | write(0) = 3 | clearText() = 2 | written(1) = 50 | entry(0, 0, 0, 0) = 2");
        Sentences.test(30, "Returns the length that it had.",
            "clearText() = 0 unchanged | type(0) = 1 | clearText() = 1 | clearText() = 0 unchanged | times 119 type(91) | "
            + "clearText() = 119 | times 120 type(91) | type(91) throws IllegalState | clearText() = 120 | clearText() = 0 unchanged | "
            + "typed [1] | parse(0, 0) = 1 | clearText() = 0 unchanged");
    }

    private static void fault() {
        Sentences.test(31, "Returns the fault of the text as a matrix over a ring.",
            "typed [5] | fault(0) = -1 | fault(1) = -1 | fault(2) = 1 | fault(3) = 1 | fault(5) = 1 | fault(7) = -1 | clearText() = 3 | "
            + "typed [i] | fault(0) = 1 | fault(1) = -1 | fault(2) = 1 | clearText() = 3 | typed [x] | fault(0) = 1 | fault(1) = 1",
            Sentences.each("fault(#) = -1", 2, 3, 5, 7));
        Sentences.test(31, "Returns the fault; NONE if there is none.",
            "fault(0) = 0 | type(91) = 1 | fault(0) = 1 | type(48) = 2 | fault(0) = 2 | type(93) = 3 | fault(0) = -1 | type(93) = 4 | "
            + "fault(0) = 3 | clearText() = 4 | type(93) = 1 | fault(0) = 0 | clearText() = 1",
            // The largest fault there is: a text of 120 bytes that ends too early.
            "typed [111111111,111111111,111111111;111111111,111111111,111111111;111111111,111111111,111111111;111111111,111111111,111111111 | "
            + "clearText() = 120",
            "typed [111111111,111111111,111111111;111111111,111111111,111111111;111111111,111111111,111111111;111111111,111111111,111111111 | "
            + "fault(0) = 120 | fault(7) = 2");
        Sentences.test(31, "Throws `IllegalArgumentException` if there is no such ring",
            Sentences.each("fault(#) throws IllegalArgument",
            NO_RINGS), "typed [1]",
                Sentences.each("fault(#) throws IllegalArgument", NO_RINGS),
                Sentences.each("fault(#) = -1", 0, 1, 2, 3,
            5, 7));
    }

    private static void parse() {
        Sentences.test(32, "Puts the matrix of the text into a slot.",
            "typed [1,2;3,4] | parse(2, 0) = 2 | slot 2 is [1,2;3,4] | ring(0) = -1 | ring(1) = -1 | typed [x] | parse(2, 7) = 1 | "
            + "ring(2) = 7 | rows(2) = 1 | columns(2) = 1 | slot 2 is [x] | typed [1,0,0,0;0,1,0,0;0,0,1,0;0,0,0,1] | parse(2, 5) = 4 | "
            + "slot 2 is [1,0,0,0;0,1,0,0;0,0,1,0;0,0,0,1]",
            "typed [-1000000000,1000000000] | parse(0, 0) = 1 | slot 0 is [-1000000000,1000000000] | typed [-30000+30000i] | "
            + "parse(0, 1) = 1 | slot 0 is [-30000+30000i] | typed [6x^7+6] | parse(0, 7) = 1 | entry(0, 0, 0, 0) = 4941264");
        Sentences.test(32, "Its log begins.",
            "typed [1;2] | parse(0, 0) = 2 | steps(0) = 0 | times 200 swap(0, false, 0, 1) | typed [3;4] | parse(0, 0) = 2 | "
            + "steps(0) = 0 | back(0) throws IllegalState | entryAfter(0, 0, 1, 0, 0) = 4 | swap(0, false, 0, 1) = 1 | "
            + "entryAfter(0, 0, 1, 0, 0) = 4");
        Sentences.test(32, "The text is empty then.",
            "typed [1] | parse(0, 0) = 1 | clearText() = 0 | typed [1] | parse(0, 0) = 1 | fault(0) = 0 | "
            + "parse(0, 0) throws IllegalState | type(91) = 1 | clearText() = 1");
        Sentences.test(32, "The text is empty then.",
            "typed [111111111,111111111,111111111;111111111,111111111,111111111;111111111,111111111,111111111;111111111,111111111,11111111] | "
            + "type(93) throws IllegalState | parse(0, 0) = 4 | type(93) = 1");
        Sentences.test(32, "Returns the number of rows.",
            "typed [1] | parse(0, 0) = 1 | typed [1,2,3,4] | parse(0, 0) = 1 | typed [1;2] | parse(0, 0) = 2 | typed [1;2;3] | "
            + "parse(0, 0) = 3 | typed [1;2;3;4] | parse(0, 0) = 4 | rows(0) = 4 | columns(0) = 1 | typed [1,2;3,4;5,6] | "
            + "parse(0, 0) = 3 | columns(0) = 2");
    }

    private static void parseThrows() {
        // With a right text, with a wrong one, and with none.
        String throwing = Sentences.each("parse(#, 0) throws IndexOutOfBounds | parse(#, 4) throws IndexOutOfBounds",
            MatrixBoundaries.NO_SLOTS);
        Sentences.test(32, NO_SLOT, throwing, "typed [1", throwing, "typed ,2]", throwing, "parse(0, 0) = 1");
        throwing = Sentences.each("parse(0, #) throws IllegalArgument", NO_RINGS);
        Sentences.test(32, "Throws `IllegalArgumentException` if there is no such ring", throwing, "typed [1", throwing, "typed ,2]",
            throwing, "parse(0, 0) = 1");
        String fault = "Throws `IllegalStateException` if the text has a fault (it stays then)";
        Sentences.test(32, fault, "parse(0, 0) throws IllegalState | typed [5 | parse(0, 0) throws IllegalState | clearText() = 2 | "
            + "typed [5 | parse(0, 0) throws IllegalState | type(93) = 3",
            Sentences.each("parse(0, #) throws IllegalState", 2, 3, 5),
            "parse(0, 7) = 1 | typed [1,2;3] | parse(0, 0) throws IllegalState | parse(1, 0) throws IllegalState | clearText() = 7",
            "typed [1]] | parse(0, 0) throws IllegalState | ring(0) = 7 | clearText() = 4 | typed [1000000001] | "
            + "parse(0, 0) throws IllegalState | clearText() = 12 | typed [1000000000] | parse(0, 0) = 1");
        Sentences.test(32, fault, "typed [1] | parse(0, 0) = 1 | scale(0, true, 0, -1, 0) = 1 | typed [x+x] | "
            + "parse(0, 2) throws IllegalState | parse(0, 0) throws IllegalState | parse(1, 2) throws IllegalState | slot 0 is [-1] | "
            + "steps(0) = 1 | times 115 type(93) | parse(0, 2) throws IllegalState | type(93) throws IllegalState | clearText() = 120");
    }

    private static void write() {
        String replaced = "Writes a matrix as a text, in place of what was written before.";
        Sentences.test(33, replaced, "typed [1,2;3,4] | parse(0, 0) = 2 | write(0) = 9 | typed [5] | parse(1, 0) = 1 | write(1) = 3 | "
            + "written(1) = 53 | written(2) = 93 | written(3) throws IndexOutOfBounds | write(0) = 9 | written(8) = 93 | "
            + "written(9) throws IndexOutOfBounds",
            // The matrix and its log stay, and a matrix that changes later is not written by itself.
            "swap(0, false, 0, 1) = 1 | written(1) = 49 | write(0) = 9 | written(1) = 51 | steps(0) = 1 | clearText() = 0 | "
            + "create(0, 0, 1, 1) = 0 | written(1) = 51");
        Sentences.test(33, replaced, "typed [-i] | parse(0, 1) = 1 | typed [x | write(0) = 4 | clearText() = 2 | slot 0 is [-i] | "
            + "write(0) = 4 | write(1) throws IllegalState | written(1) = 45");
        String length = "Returns the length of the written text.";
        StringBuilder sets = new StringBuilder("create(0, 7, 4, 4) = 1 | create(1, 1, 4, 4) = 1 | create(2, 0, 4, 4) = 1");
        for (int k = 0; k < 16; k++) {
            String cell = k / 4 + ", " + k % 4;
            sets.append(" | set(0, " + cell + ", 5764800, 0) = 0 | set(1, " + cell + ", -30000, -30000) = 0 | set(2, " + cell + ", -1000000000, 0) = 0");
        }
        // The shortest text, and the longest ones of each kind of ring.
        Sentences.test(33, length, "create(0, 0, 1, 1) = 1 | write(0) = 3 | written(2) = 93 | written(3) throws IndexOutOfBounds",
            "create(0, 1, 1, 4) = 0 | write(0) = 9 | create(0, 2, 4, 1) = 0 | write(0) = 9 | create(0, 7, 4, 4) = 0 | write(0) = 33");
        Sentences.test(33, length, sets.toString(),
            "write(0) = 561 | written(560) = 93 | written(559) = 54 | written(561) throws IndexOutOfBounds | write(1) = 225 | "
            + "written(224) = 93 | written(225) throws IndexOutOfBounds | write(2) = 193 | written(192) = 93 | "
            + "written(193) throws IndexOutOfBounds | write(0) = 561 | written(0) = 91 | written(34) = 54 | written(35) = 44 | "
            + "written(560) = 93");
        MatrixBoundaries.noSuchSlot(33, NO_SLOT, "write(#)");
        Sentences.test(33, "Throws `IllegalStateException` if the slot is empty",
            Sentences.each("write(#) throws IllegalState", 0, 1, 2),
            "create(1, 0, 1, 1) = 1 | write(1) = 3",
            Sentences.each("write(#) throws IllegalState", 0, 2), "written(1) = 48");
    }

    private static void written() {
        Sentences.test(34, "Returns a byte of the written text.",
            "typed [-5+2i,i;0,1-i] | parse(0, 1) = 2 | write(0) = 15 | written(0) = 91 | written(1) = 45 | written(2) = 53 | "
            + "written(3) = 43 | written(4) = 50 | written(5) = 105 | written(6) = 44 | written(7) = 105 | written(8) = 59 | "
            + "written(9) = 48 | written(14) = 93",
            "typed [6x^7] | parse(0, 7) = 1 | write(0) = 6 | written(1) = 54 | written(2) = 120 | written(3) = 94 | written(4) = 55");
        Sentences.test(34, "- `index`: its index, from 0", "create(0, 0, 1, 1) = 1 | write(0) = 3 | written(0) = 91 | written(2) = 93",
            Sentences.each("written(#) throws IndexOutOfBounds", -1, 3, 4, 560, 561, Integer.MIN_VALUE, Integer.MAX_VALUE));
        Sentences.test(34, "Returns the byte.",
            "typed [9,x] | parse(0, 7) throws IllegalState | clearText() = 5 | typed [6,x] | parse(0, 7) = 1 | write(0) = 5 | "
            + "written(1) = 54 | written(3) = 120");
        Sentences.test(34, "Throws `IndexOutOfBoundsException` if there is no such byte",
            Sentences.each("written(#) throws IndexOutOfBounds",
            -1, 0, 1, Integer.MIN_VALUE, Integer.MAX_VALUE),
            "typed [1] | written(0) throws IndexOutOfBounds | parse(0, 0) = 1 | written(0) throws IndexOutOfBounds | write(0) = 3 | "
            + "written(0) = 91 | written(3) throws IndexOutOfBounds",
            "typed [1,1] | parse(1, 0) = 1 | written(3) throws IndexOutOfBounds | write(1) = 5 | written(4) = 93 | "
            + "written(5) throws IndexOutOfBounds | write(0) = 3 | written(3) throws IndexOutOfBounds | written(4) throws IndexOutOfBounds");
    }
}
