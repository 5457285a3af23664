/** The boundary cases of the document's "Terms": elements, slots, logs, failing calls, and the two forms. */
final class TermsBoundaries {
    private static final int T = Sentences.TERMS;
    private static final Object[] NO_RINGS = {-1, 4, 6, 8, 9, 11, Integer.MIN_VALUE, Integer.MAX_VALUE};
    private static final Object[] NO_SLOTS = {-1, 3, Integer.MIN_VALUE, Integer.MAX_VALUE};
    /** The Hermite forms of these take 200 and 201 steps. */
    static final String HERMITE_200 = "[102334155,0,1,0;63245986,0,0,0;0,370248451,0,0;0,228826127,1,0]";
    static final String HERMITE_201 = "[-433494437,0,1,0;267914296,0,0,0;0,-228826127,0,0;0,141422324,1,0]";
    /** The Smith forms of these take 200 and 201 steps. */
    static final String SMITH_200 = "[0,0,0,388543857;0,0,0,599790883;0,0,0,714643570;797691075,950439251,516743378,0]";
    static final String SMITH_201 = "[0,0,0,599790883;0,0,0,388543857;0,0,0,714643570;797691075,950439251,516743378,0]";
    /** Its forms have only 0 and 1, but 3000000000 comes up on the way. */
    static final String LARGE_IN_BETWEEN = "[1,1000000000,0;2,-1000000000,1;0,1,0]";

    private TermsBoundaries() {
    }

    static void run() {
        rings();
        parts();
        ranges();
        sizes();
        quotients();
        unitsAndNormalElements();
        slots();
        logs();
        failing();
        sums();
        hermite();
        smith();
        copies();
        exceptions();
    }

    private static void rings() {
        String sentence = "The rings have these numbers: 0 the integers; 1 the Gaussian integers a + bi; 2, 3, 5 and 7 the polynomials"
            + " over the field with p elements, where p is the number of the ring.";
        Sentences.test(T, sentence, "create(0, 0, 1, 1) = 1 | ring(0) = 0",
            Sentences.each("create(0, #, 1, 1) = 0 | ring(0) = #", 1, 2, 3,
            5, 7));
        Sentences.test(T, sentence, Sentences.each("create(0, #, 1, 1) throws IllegalArgument", NO_RINGS),
            Sentences.each("quotient(#, 1, 1, 0) throws IllegalArgument", NO_RINGS),
            Sentences.each("gcd(#, 1, 0, 1, 0, 0) throws IllegalArgument",
            NO_RINGS),
            "typed [1]",
            Sentences.each("fault(#) throws IllegalArgument", NO_RINGS),
            Sentences.each("parse(0, #) throws IllegalArgument",
            NO_RINGS));
        // Seven halves: 3 and 1/2, rounded; x^2+x+1 by x; 2x+1 by 2; x+2 by 2; x by 2.
        Sentences.test(T, sentence, "quotient(0, 7, 2, 0) = 3 | quotient(1, 7, 2, 0) = 4 | quotient(2, 7, 2, 0) = 3 | "
            + "quotient(3, 7, 2, 0) = 5",
            "quotient(5, 7, 2, 0) = 16 | quotient(7, 7, 2, 0) = 28");
    }

    private static void parts() {
        Sentences.test(T, "An element is given and returned as two ints, its first and its second part.",
            "create(0, 1, 1, 1) = 1 | set(0, 0, 0, 3, -4) = 0 | entry(0, 0, 0, 0) = 3 | entry(0, 0, 0, 1) = -4",
            Sentences.each("entry(0, 0, 0, #) throws IllegalArgument", -1, 2));
        Sentences.test(T, "An integer is its first part, and its second part is 0.",
            "create(0, 0, 2, 1) = 1 | set(0, 0, 0, -5, 0) = 0 | entry(0, 0, 0, 1) = 0",
            Sentences.each("set(0, 0, 0, 5, #) throws IllegalArgument", -1, 1, Integer.MIN_VALUE, Integer.MAX_VALUE),
            Sentences.each("add(0, false, 0, 1, 5, #) throws IllegalArgument", -1, 1),
            Sentences.each("scale(0, false, 0, 1, #) throws IllegalArgument",
            -1, 1),
            Sentences.each("gcd(0, 5, #, 5, 0, 0) throws IllegalArgument", -1, 1),
            Sentences.each("gcd(0, 5, 0, 5, #, 0) throws IllegalArgument",
            -1, 1));
        Sentences.test(T, "For a Gaussian integer a + bi these are a and b.",
            "typed [7-9i] | parse(0, 1) = 1 | entry(0, 0, 0, 0) = 7 | entry(0, 0, 0, 1) = -9",
            "typed [-i] | parse(0, 1) = 1 | entry(0, 0, 0, 0) = 0 | entry(0, 0, 0, 1) = -1");
        String sum = "For a polynomial the first part is the sum of (coefficient of x^k) * p^k, where coefficients are from 0 to p - 1, "
            + "and the second part is 0.";
        Sentences.test(T, sum, "typed [1,x,x^7,x^7+x^6+x^5+x^4] | parse(0, 2) = 1 | entry(0, 0, 0, 0) = 1 | entry(0, 0, 1, 0) = 2 | "
            + "entry(0, 0, 2, 0) = 128 | entry(0, 0, 3, 0) = 240",
            "typed [2,2x+2,2x^7] | parse(0, 3) = 1 | entry(0, 0, 0, 0) = 2 | entry(0, 0, 1, 0) = 8 | entry(0, 0, 2, 0) = 4374 | "
            + "entry(0, 0, 2, 1) = 0",
            "typed [4,4x+4,4x^7] | parse(0, 5) = 1 | entry(0, 0, 0, 0) = 4 | entry(0, 0, 1, 0) = 24 | entry(0, 0, 2, 0) = 312500",
            "typed [6,6x+6,6x^7] | parse(0, 7) = 1 | entry(0, 0, 0, 0) = 6 | entry(0, 0, 1, 0) = 48 | entry(0, 0, 2, 0) = 4941258");
        for (int p : new int[] {2, 3, 5, 7}) {
            // p - 1 is the largest digit, p is x.
            Sentences.test(T, sum, "create(0, " + p + ", 1, 2) = 1 | set(0, 0, 0, " + (p - 1) + ", 0) = 0 | set(0, 0, 1, " + p + ", 0) = 0 | "
                + "slot 0 is [" + (p - 1) + ",x]",
                Sentences.each("set(0, 0, 0, 1, #) throws IllegalArgument", -1, 1), "set(0, 0, 0, -1, 0) throws IllegalArgument");
        }
    }

    private static void ranges() {
        String sentence = "An element is in range if it is an integer from -1000000000 to 1000000000, a Gaussian integer with both parts"
            + " from -30000 to 30000, or a polynomial with a degree of at most 7.";
        Object[] outside = {-1000000001, 1000000001, Integer.MIN_VALUE, Integer.MAX_VALUE};
        Sentences.test(T, sentence, "create(0, 0, 2, 1) = 1 | set(0, 0, 0, -1000000000, 0) = 0 | "
            + "set(0, 0, 0, 1000000000, 0) = -1000000000 | set(0, 0, 0, 0, 0) = 1000000000",
            Sentences.each("set(0, 0, 0, #, 0) throws IllegalArgument", outside),
            Sentences.each("add(0, false, 0, 1, #, 0) throws IllegalArgument",
            outside),
            Sentences.each("quotient(0, #, 1, 0) throws IllegalArgument", outside),
            Sentences.each("quotient(0, 1, #, 0) throws IllegalArgument",
            outside),
            Sentences.each("gcd(0, #, 0, 1, 0, 0) throws IllegalArgument", outside),
            Sentences.each("gcd(0, 1, 0, #, 0, 0) throws IllegalArgument",
            outside),
            "add(0, false, 0, 1, -1000000000, 0) = 1 | add(0, false, 0, 1, 1000000000, 0) = 2 | "
            + "quotient(0, -1000000000, 1000000000, 0) = -1",
            "gcd(0, 1000000000, 0, -1000000000, 0, 0) = 1000000000");
        Object[] parts = {-30001, 30001, Integer.MIN_VALUE, Integer.MAX_VALUE, 65536, 1 << 31};
        Sentences.test(T, sentence, "create(0, 1, 2, 1) = 1 | set(0, 0, 0, -30000, -30000) = 0 | entry(0, 0, 0, 1) = -30000 | "
            + "set(0, 0, 0, 30000, 30000) = -30000 | set(0, 0, 0, 0, 0) = 30000",
            Sentences.each("set(0, 0, 0, #, 0) throws IllegalArgument | set(0, 0, 0, 0, #) throws IllegalArgument", parts),
            Sentences.each("add(0, false, 0, 1, #, 0) throws IllegalArgument | add(0, false, 0, 1, 0, #) throws IllegalArgument", parts),
            Sentences.each("quotient(1, #, 1, 0) throws IllegalArgument | quotient(1, 1, #, 0) throws IllegalArgument", parts),
            Sentences.each("gcd(1, #, 0, 1, 0, 0) throws IllegalArgument | gcd(1, 0, #, 1, 0, 0) throws IllegalArgument", parts),
            Sentences.each("gcd(1, 1, 0, #, 0, 0) throws IllegalArgument | gcd(1, 1, 0, 0, #, 0) throws IllegalArgument", parts),
            "add(0, false, 0, 1, 30000, -30000) = 1 | quotient(1, 30000, -30000, 0) = -1 | gcd(1, 30000, 30000, -30000, 30000, 1) = 30000");
        int[][] powers = {{2, 256}, {3, 6561}, {5, 390625}, {7, 5764801}};
        for (int[] power : powers) {
            int p = power[0];
            int last = power[1] - 1;
            Object[] beyond = {last + 1, -1, Integer.MIN_VALUE, Integer.MAX_VALUE};
            Sentences.test(T, sentence, "create(0, " + p + ", 2, 1) = 1 | set(0, 0, 0, " + last + ", 0) = 0 | set(0, 0, 0, 0, 0) = " + last,
                Sentences.each("set(0, 0, 0, #, 0) throws IllegalArgument | add(0, false, 0, 1, #, 0) throws IllegalArgument", beyond),
                Sentences.each("quotient(" + p + ", #, 1, 0) throws IllegalArgument | quotient(" + p + ", 1, #, 0) throws IllegalArgument",
                beyond),
                Sentences.each("gcd(" + p + ", #, 0, 1, 0, 0) throws IllegalArgument | gcd(" + p + ", 1, 0, #, 0, 0) throws IllegalArgument",
                beyond),
                "add(0, false, 0, 1, " + last + ", 0) = 1 | quotient(" + p + ", " + last + ", " + last + ", 0) = 1 | gcd(" + p + ", " + last + ", 0, 0, 0, 1) = 0");
        }
    }

    /** What is smallest is seen from the row that comes up first. */
    private static void sizes() {
        String sentence = "The size of an element is its absolute value (integers), a * a + b * b (Gaussian integers), or 1 plus its "
            + "degree (polynomials);"
            + " the size of 0 is 0.";
        Sentences.test(T, sentence, "typed [3;-2] | parse(0, 0) = 2 | hermite(0) = 1 | step(0, 0, 0) = 0",
            "typed [-2;2] | parse(0, 0) = 2 | hermite(0) = 1 | step(0, 0, 0) = 1",
            "typed [-1000000000;999999999] | parse(0, 0) = 2 | hermite(0) = 1 | step(0, 0, 0) = 0",
            "typed [0;1000000000] | parse(0, 0) = 2 | hermite(0) = 1 | log 0 is 0,0,1,0,0");
        Sentences.test(T, sentence, "typed [5;3+4i] | parse(0, 1) = 2 | hermite(0) = 1 | step(0, 0, 0) = 1",
            "typed [5;3+3i] | parse(0, 1) = 2 | hermite(0) = 1 | step(0, 0, 0) = 0",
            "typed [30000+30000i;-30000-29999i] | parse(0, 1) = 2 | hermite(0) = 1 | step(0, 0, 0) = 0",
            "typed [0;i] | parse(0, 1) = 2 | hermite(0) = 1 | step(0, 0, 0) = 0",
            // 2 is larger than 1+i, though no part of 1+i is smaller than 0.
            "typed [2;1+i] | parse(0, 1) = 2 | hermite(0) = 1 | step(0, 0, 0) = 0");
        Sentences.test(T, sentence, "typed [x;2] | parse(0, 3) = 2 | hermite(0) = 1 | step(0, 0, 0) = 0",
            "typed [2;1] | parse(0, 3) = 2 | hermite(0) = 1 | step(0, 0, 0) = 1",
            "typed [2x+1;x] | parse(0, 3) = 2 | hermite(0) = 1 | step(0, 0, 0) = 1",
            "typed [x^7;2x^6+2] | parse(0, 3) = 2 | hermite(0) = 1 | step(0, 0, 0) = 0",
            "typed [0;1] | parse(0, 3) = 2 | hermite(0) = 1 | log 0 is 0,0,1,0,0");
    }

    private static void quotients() {
        Sentences.test(T, "The quotient of an element a and an element b that is not 0 is the following element q; the remainder is a - q "
            + "* b, and a is divisible by b if it is 0.",
            "quotient(0, 0, 5, 0) = 0 | quotient(1, 0, 5, 0) = 0 | quotient(5, 0, 7, 0) = 0",
            Sentences.each("quotient(#, 1, 0, 0) throws Arithmetic",
            0, 1, 2, 3, 5, 7),
            // Divisible, and with a remainder of 1: a solution, and none.
            "typed [3] | parse(0, 0) = 1 | typed [9] | parse(1, 0) = 1 | solve(0, 1, 2) = 1 | slot 2 is [3] | typed [10] | "
            + "parse(1, 0) = 1 | solve(0, 1, 2) = 0 unchanged",
            "typed [-1] | parse(1, 0) = 1 | solve(0, 1, 2) = 0 unchanged | typed [0] | parse(1, 0) = 1 | solve(0, 1, 2) = 1 | slot 2 is [0]");
        String integers = "the remainder is at least 0 and less than the absolute value of b.";
        Sentences.test(T, integers, "quotient(0, 7, 2, 0) = 3 | quotient(0, -7, 2, 0) = -4 | quotient(0, 7, -2, 0) = -3 | "
            + "quotient(0, -7, -2, 0) = 4",
            "quotient(0, 8, 2, 0) = 4 | quotient(0, -8, 2, 0) = -4 | quotient(0, 8, -2, 0) = -4 | quotient(0, -8, -2, 0) = 4 | "
            + "quotient(0, 1, 2, 0) = 0 | quotient(0, -1, 2, 0) = -1 | quotient(0, 1, -2, 0) = 0 | quotient(0, -1, -2, 0) = 1",
            "quotient(0, 999999999, 1000000000, 0) = 0 | quotient(0, 1000000000, 999999999, 0) = 1 | quotient(0, -1, 1000000000, 0) = -1 | "
            + "quotient(0, -1, -1000000000, 0) = 1",
            "quotient(0, -1000000000, 999999999, 0) = -2 | quotient(0, -1000000000, -999999999, 0) = 2 | "
            + "quotient(0, -1000000000, -1000000000, 0) = 1",
            "quotient(0, 1000000000, -1, 0) = -1000000000 | quotient(0, -1000000000, -1, 0) = 1000000000 | "
            + "quotient(0, -1000000000, 1, 0) = -1000000000");
        // Halves are rounded up, since 1/2 is added and then rounded down.
        String gaussian = "let a * (conjugate of b) be x + yi, and n the size of b. Then q has the parts (2 * x + n) / (2 * n) and (2 * y "
            + "+ n) / (2 * n),"
            + " both rounded down (toward negative infinity).";
        Sentences.test(T, gaussian, "quotient(1, 1, 2, 0) = 1 | quotient(1, -1, 2, 0) = 0 | quotient(1, 1, -2, 0) = 0 | "
            + "quotient(1, -1, -2, 0) = 1 | quotient(1, 3, 2, 0) = 2 | quotient(1, -3, 2, 0) = -1",
            "quotient(1, 1, 3, 0) = 0 | quotient(1, 2, 3, 0) = 1 | quotient(1, -1, 3, 0) = 0 | quotient(1, -2, 3, 0) = -1 | "
            + "quotient(1, -4, 3, 0) = -1 | quotient(1, -5, 3, 0) = -2 | quotient(1, 4, 3, 0) = 1",
            "quotient(1, 15000, 30000, 0) = 1 | quotient(1, 14999, 30000, 0) = 0 | quotient(1, -15000, 30000, 0) = 0 | "
            + "quotient(1, -15001, 30000, 0) = -1 | quotient(1, 30000, -1, 0) = -30000 | quotient(1, 7, 2, 1) = 0");
        // In the Hermite form an entry above the pivot is reduced by its quotient: the parts of q by themselves.
        Sentences.test(T, gaussian, "typed [1,i;0,2] | parse(0, 1) = 2 | hermite(0) = 2 | log 0 is 1,0,1,0,-1 | slot 0 is [1,-i;0,2]",
            "typed [1,-i;0,2] | parse(0, 1) = 2 | hermite(0) = 2 | log 0 is ",
            "typed [1,1+i;0,2] | parse(0, 1) = 2 | hermite(0) = 2 | log 0 is 1,0,1,-1,-1",
            "typed [1,-1-i;0,2] | parse(0, 1) = 2 | hermite(0) = 2 | log 0 is ",
            "typed [1,-5i;0,3] | parse(0, 1) = 2 | hermite(0) = 2 | log 0 is 1,0,1,0,2 | slot 0 is [1,i;0,3]",
            // By 2+i: 3i (2-i) is 3+6i, n is 5, and 3/5 and 6/5 become 1 and 1.
            "typed [1,3i;0,2+i] | parse(0, 1) = 2 | hermite(0) = 2 | log 0 is 1,0,1,-1,-1 | slot 0 is [1,-1;0,2+i]");
        Sentences.test(T, "the remainder is 0 or has a lower degree than b.",
            "quotient(2, 127, 128, 0) = 0 | quotient(2, 128, 128, 0) = 1 | quotient(2, 255, 128, 0) = 1 | quotient(2, 255, 1, 0) = 255 | "
            + "quotient(2, 255, 3, 0) = 85",
            "quotient(3, 2, 3, 0) = 0 | quotient(3, 8, 2, 0) = 4 | quotient(3, 6560, 2187, 0) = 2 | quotient(5, 4, 3, 0) = 3 | "
            + "quotient(7, 5764800, 823543, 0) = 6 | quotient(7, 823543, 5764800, 0) = 6 | quotient(7, 6, 7, 0) = 0");
    }

    private static void unitsAndNormalElements() {
        String units = "The units are 1 and -1; 1, -1, i and -i; the polynomials with the degree 0.";
        Sentences.test(T, units, "create(0, 0, 1, 1) = 1 | scale(0, false, 0, 1, 0) = 1 | scale(0, false, 0, -1, 0) = 2",
            Sentences.each("scale(0, false, 0, #, 0) throws IllegalArgument",
            -2, 0, 2, 1000000000));
        Sentences.test(T, units, "create(0, 1, 1, 1) = 1 | scale(0, false, 0, 1, 0) = 1 | scale(0, false, 0, -1, 0) = 2 | "
            + "scale(0, false, 0, 0, 1) = 3 | scale(0, false, 0, 0, -1) = 4",
            Sentences.each("scale(0, false, 0, #) throws IllegalArgument", "0, 0", "1, 1", "-1, 1", "1, -1", "-1, -1", "2, 0", "0, 2",
            "-2, 0", "0, -2", "30000, 30000"));
        for (int p : new int[] {2, 3, 5, 7}) {
            String all = "create(0, " + p + ", 1, 1) = 1";
            for (int unit = 1; unit < p; unit++) {
                all += " | scale(0, false, 0, " + unit + ", 0) = " + unit;
            }
            Sentences.test(T, units, all,
                Sentences.each("scale(0, false, 0, #, 0) throws IllegalArgument", -1, 0, p, p + 1));
        }
        String normal = "An element is normal if it is 0; or an integer above 0; or a Gaussian integer with a first part above 0 and a "
            + "second part of at least 0;"
            + " or a polynomial with the leading coefficient 1. The normalizer of an element that is not 0 is the unit whose product with "
                + "it is normal.";
        Sentences.test(T, normal, "typed [0] | parse(0, 0) = 1 | hermite(0) = 0 | log 0 is ",
            "typed [1] | parse(0, 0) = 1 | hermite(0) = 1 | log 0 is ",
            "typed [-1] | parse(0, 0) = 1 | hermite(0) = 1 | log 0 is 2,0,-1,-1,0 | slot 0 is [1]",
            "typed [-1000000000] | parse(0, 0) = 1 | smith(0) = 1 | log 0 is 2,0,-1,-1,0 | slot 0 is [1000000000]");
        String[][] gaussian = {{"2", ""}, {"2+i", ""}, {"1+2i", ""}, {"2i", "2,0,-1,0,-1"}, {"-1+2i", "2,0,-1,0,-1"}, {"-2+i",
            "2,0,-1,0,-1"}, {"-2", "2,0,-1,-1,0"},
            {"-2-i", "2,0,-1,-1,0"}, {"-1-2i", "2,0,-1,-1,0"}, {"-2i", "2,0,-1,0,1"}, {"1-2i", "2,0,-1,0,1"}, {"2-i", "2,0,-1,0,1"}, {"30000-30000i",
                "2,0,-1,0,1"}};
        for (String[] pair : gaussian) {
            Sentences.test(T, normal, "typed [" + pair[0] + "] | parse(0, 1) = 1 | copy(0, 1) = 0 | hermite(0) = 1 | log 0 is " + pair[1],
                "smith(1) = 1 | log 1 is " + pair[1]);
        }
        Sentences.test(T, normal, "typed [0] | parse(0, 1) = 1 | smith(0) = 0 | log 0 is ",
            "typed [0] | parse(0, 7) = 1 | hermite(0) = 0 | log 0 is ");
        // The inverses: 2 and 2 over 3; 2 and 3, 4 and 4 over 5; 2 and 4, 3 and 5, 6 and 6 over 7.
        String[] polynomials = {"2 1 1", "3 1 1", "3 2 2", "5 2 3", "5 3 2", "5 4 4", "7 1 1", "7 2 4", "7 3 5", "7 4 2", "7 5 3", "7 6 6"};
        for (String words : polynomials) {
            String[] word = words.split(" ");
            String log = word[2].equals("1") ? "" : "2,0,-1," + word[2] + ",0";
            Sentences.test(T, normal, "typed [" + word[1] + "x^7] | parse(0, " + word[0] + ") = 1 | hermite(0) = 1 | slot 0 is [x^7] | "
                + "log 0 is " + log,
                "typed [" + word[1] + "] | parse(0, " + word[0] + ") = 1 | smith(0) = 1 | slot 0 is [1] | log 0 is " + log);
        }
    }

    private static void slots() {
        String sentence = "There are three slots, 0 to 2, at first empty.";
        Sentences.test(T, sentence,
            Sentences.each("ring(#) = -1 | rows(#) = 0 | columns(#) = 0 | steps(#) = 0 | "
            + "write(#) throws IllegalState", 0, 1, 2), Sentences.each("create(#, 0, 1, 1) = 1", 0, 1, 2));
        for (String call : new String[] {"create(#, 0, 1, 1)", "set(#, 0, 0, 1, 0)", "copy(#, 0)", "copy(0, #)", "multiply(#, 0, 0)",
            "multiply(0, #, 0)", "multiply(0, 0, #)", "ring(#)",
            "rows(#)", "columns(#)", "entry(#, 0, 0, 0)", "swap(#, false, 0, 1)", "add(#, false, 0, 1, 1, 0)", "scale(#, false, 0, 1, 0)",
            "back(#)", "transfer(#, 0, false)", "transfer(0, #, false)",
            "hermite(#)", "smith(#)", "steps(#)", "step(#, 0, 0)", "entryAfter(#, 0, 0, 0, 0)", "solve(#, 0, 0)", "solve(0, #, 0)",
            "solve(0, 0, #)", "kernel(#, 0)", "kernel(0, #)", "invariant(#, 0, 0)",
            "order(#)", "determinant(#, 0)", "sameSpan(#, 0)", "sameSpan(0, #)", "areEquivalent(#, 0)", "areEquivalent(0, #)",
            "parse(#, 0)", "write(#)"}) {
            String throwing = Sentences.each(call + " throws IndexOutOfBounds", NO_SLOTS);
            // In a new object, and in one where nothing else would stop the call.
            Sentences.test(T, sentence, throwing, "typed [1] | parse(0, 0) = 1 | scale(0, false, 0, 1, 0) = 1 | typed [7]", throwing);
        }
        String shape = "A slot that is not empty has a ring, a matrix over it with 1 to 4 rows and 1 to 4 columns (numbered from 0), and a "
            + "log of steps.";
        for (int size = 0; size < 16; size++) {
            int rows = size / 4 + 1;
            int columns = size % 4 + 1;
            String last = (rows - 1) + ", " + (columns - 1);
            Sentences.test(T, shape, "create(2, 3, " + rows + ", " + columns + ") = 1 | ring(2) = 3 | rows(2) = " + rows + " | "
                + "columns(2) = " + columns + " | steps(2) = 0",
                "entry(2, 0, 0, 0) = 0 | entry(2, " + last + ", 0) = 0 | set(2, " + last + ", 8, 0) = 0 | entry(2, " + last + ", 0) = 8",
                "entry(2, " + rows + ", 0, 0) throws IllegalArgument | entry(2, 0, " + columns + ", 0) throws IllegalArgument | "
                + "entry(2, -1, 0, 0) throws IllegalArgument | entry(2, 0, -1, 0) throws IllegalArgument",
                "set(2, " + rows + ", 0, 1, 0) throws IllegalArgument | set(2, 0, " + columns + ", 1, 0) throws IllegalArgument");
        }
        Sentences.test(T, shape,
            Sentences.each("create(0, 0, #, 1) throws IllegalArgument | create(0, 0, 1, #) throws IllegalArgument", -1,
            0, 5, Integer.MIN_VALUE, Integer.MAX_VALUE));
        String begins = "When the log of a slot begins, it is empty, and the matrix as it is then is the original matrix.";
        String filled = "typed [1,2;3,5] | parse(0, 0) = 2 | copy(0, 1) = 0 | scale(1, false, 0, -1, 0) = 1 | swap(1, false, 0, 1) = 2";
        String empty = "steps(1) = 0 | log 1 is  | step(1, 0, 0) throws IndexOutOfBounds | back(1) throws IllegalState | "
            + "entryAfter(1, 1, 0, 0, 0) throws IllegalArgument";
        Sentences.test(T, begins, filled, "create(1, 0, 2, 2) = 0", empty, "entryAfter(1, 0, 0, 0, 0) = 0 | entryAfter(1, 0, 1, 1, 0) = 0");
        Sentences.test(T, begins, filled, "set(1, 0, 0, 9, 0) = 3", empty,
            "entryAfter(1, 0, 0, 0, 0) = 9 | entryAfter(1, 0, 1, 0, 0) = -1 | entryAfter(1, 0, 1, 1, 0) = -2");
        Sentences.test(T, begins, filled, "multiply(0, 0, 1) = 2", empty, "entryAfter(1, 0, 0, 0, 0) = 7 | entryAfter(1, 0, 1, 1, 0) = 31");
        Sentences.test(T, begins, filled, "typed [4;6] | parse(2, 0) = 2 | solve(0, 2, 1) = 1", empty,
            "slot 1 is [-8;6] | entryAfter(1, 0, 0, 0, 0) = -8 | entryAfter(1, 0, 1, 0, 0) = 6");
        Sentences.test(T, begins, filled, "typed [1,1] | parse(0, 0) = 1 | kernel(0, 1) = 1", empty,
            "slot 1 is [-1;1] | entryAfter(1, 0, 0, 0, 0) = -1 | entryAfter(1, 0, 1, 0, 0) = 1");
        Sentences.test(T, begins, filled, "typed [7,8] | parse(1, 0) = 1", empty,
            "entryAfter(1, 0, 0, 0, 0) = 7 | entryAfter(1, 0, 0, 1, 0) = 8");
    }

    private static void logs() {
        String kinds = "row i and row j are swapped; 3: column i and column j are swapped;";
        String four = "typed [1,2,3,4;5,6,7,8;9,10,11,12;13,14,15,16] | parse(0, 0) = 4";
        Sentences.test(T, kinds, four, "swap(0, false, 0, 3) = 1 | slot 0 is [13,14,15,16;5,6,7,8;9,10,11,12;1,2,3,4]",
            "swap(0, true, 3, 0) = 2 | slot 0 is [16,14,15,13;8,6,7,5;12,10,11,9;4,2,3,1] | log 0 is 0,0,3,0,0 3,3,0,0,0");
        Sentences.test(T, "f times row j is added to row i; 4: f times column j is added to column i;", four,
            "add(0, false, 3, 0, -1, 0) = 1 | slot 0 is [1,2,3,4;5,6,7,8;9,10,11,12;12,12,12,12]",
            "add(0, true, 0, 3, 2, 0) = 2 | slot 0 is [9,2,3,4;21,6,7,8;33,10,11,12;36,12,12,12] | log 0 is 1,3,0,-1,0 4,0,3,2,0");
        Sentences.test(T, "row i is multiplied by f; 5: column i is multiplied by f;", four,
            "scale(0, false, 3, -1, 0) = 1 | slot 0 is [1,2,3,4;5,6,7,8;9,10,11,12;-13,-14,-15,-16]",
            "scale(0, true, 3, -1, 0) = 2 | slot 0 is [1,2,3,-4;5,6,7,-8;9,10,11,-12;-13,-14,-15,16] | log 0 is 2,3,-1,-1,0 5,3,-1,-1,0");
        Sentences.test(T, "where i and j are different, and f is an element, in the kinds 2 and 5 a unit.", four,
            Sentences.each("swap(0, false, #, #) throws IllegalArgument | swap(0, true, #, #) throws IllegalArgument | "
            + "add(0, false, #, #, 1, 0) throws IllegalArgument | add(0, true, #, #, 1, 0) throws IllegalArgument", 0, 3),
            "add(0, false, 0, 1, 1000000001, 0) throws IllegalArgument | scale(0, false, 0, 2, 0) throws IllegalArgument | "
            + "scale(0, true, 0, 2, 0) throws IllegalArgument | scale(0, true, 0, 0, 0) throws IllegalArgument",
            "add(0, true, 0, 1, 0, 0) = 1 | add(0, true, 0, 1, 2, 0) = 2 | scale(0, true, 0, 1, 0) = 3");
        Sentences.test(T, "Each step that is done to a matrix is appended to its log.",
            "typed [2,4;6,8] | parse(0, 0) = 2 | swap(0, true, 0, 1) = 1 | hermite(0) = 2",
            // [4,2;8,6], then 8 by 4, and 2 above the new pivot 2.
            "log 0 is 3,0,1,0,0 1,1,0,-2,0 1,0,1,-1,0 | smith(0) = 2 | log 0 is 3,0,1,0,0 1,1,0,-2,0 1,0,1,-1,0 0,0,1,0,0 3,0,1,0,0",
            "typed [1;1] | parse(1, 0) = 2 | transfer(0, 1, false) = 3 | log 1 is 1,1,0,-2,0 1,0,1,-1,0 0,0,1,0,0 | "
            + "add(1, false, 0, 1, 0, 0) = 4 | step(1, 3, 0) = 1");
        String most = "A log has at most 200 steps.";
        String full = "typed [1,2;3,4] | parse(0, 0) = 2 | times 199 swap(0, false, 0, 1) | swap(0, false, 0, 1) = 200";
        Sentences.test(T, most, full, "swap(0, false, 0, 1) throws Arithmetic | swap(0, true, 0, 1) throws Arithmetic | steps(0) = 200 | "
            + "step(0, 199, 0) = 0 | step(0, 200, 0) throws IndexOutOfBounds | slot 0 is [1,2;3,4]");
        Sentences.test(T, most, full, "add(0, false, 0, 1, 0, 0) throws Arithmetic | add(0, true, 0, 1, 1, 0) throws Arithmetic | "
            + "back(0) = 199 | add(0, true, 0, 1, 1, 0) = 200 | add(0, true, 0, 1, 1, 0) throws Arithmetic");
        Sentences.test(T, most, full, "scale(0, false, 0, 1, 0) throws Arithmetic | scale(0, true, 0, -1, 0) throws Arithmetic | "
            + "back(0) = 199 | scale(0, true, 0, -1, 0) = 200 | scale(0, true, 0, -1, 0) throws Arithmetic");
        Sentences.test(T, most, full, "copy(0, 1) = 200 | steps(1) = 200 | swap(1, false, 0, 1) throws Arithmetic | "
            + "set(1, 0, 0, 7, 0) = 1 | swap(1, false, 0, 1) = 1");
        Sentences.test(T, most, full, "create(1, 0, 2, 1) = 1 | scale(1, false, 0, 1, 0) = 1 | transfer(1, 0, false) throws Arithmetic | "
            + "back(0) = 199 | transfer(1, 0, false) = 1 | steps(0) = 200 | transfer(1, 0, false) throws Arithmetic");
        Sentences.test(T, most, "typed " + HERMITE_200 + " | parse(0, 0) = 4 | hermite(0) = 3 | steps(0) = 200 | step(0, 199, 0) = 1 | "
            + "slot 0 is [1,0,0,0;0,1,0,0;0,0,1,0;0,0,0,0] | hermite(0) = 3 | steps(0) = 200 | smith(0) = 3 | steps(0) = 200");
        Sentences.test(T, most, "typed " + HERMITE_201 + " | parse(0, 0) = 4 | hermite(0) throws Arithmetic | steps(0) = 0");
        Sentences.test(T, most, "typed " + HERMITE_200 + " | parse(0, 0) = 4 | scale(0, false, 0, 1, 0) = 1 | "
            + "hermite(0) throws Arithmetic | steps(0) = 1 | back(0) = 0 | hermite(0) = 3");
        Sentences.test(T, most, "typed " + SMITH_200 + " | parse(0, 0) = 4 | smith(0) = 2 | steps(0) = 200 | "
            + "slot 0 is [1,0,0,0;0,1,0,0;0,0,0,0;0,0,0,0] | smith(0) = 2 | steps(0) = 200");
        Sentences.test(T, most, "typed " + SMITH_201 + " | parse(0, 0) = 4 | smith(0) throws Arithmetic | steps(0) = 0");
        Sentences.test(T, most, "typed " + SMITH_200 + " | parse(0, 0) = 4 | scale(0, false, 0, 1, 0) = 1 | smith(0) throws Arithmetic | "
            + "steps(0) = 1 | back(0) = 0 | smith(0) = 2");
    }

    private static void failing() {
        String sentence = "A call fails if by it an entry of a matrix, or another element that is computed as described, would be out of "
            + "range, even if only in between,"
            + " or a log would have more than 200 steps. Then it throws an ArithmeticException and changes nothing.";
        Sentences.test(T, sentence, "typed [999999999,-999999999;1,-1] | parse(0, 0) = 2 | add(0, false, 0, 1, 1, 0) = 1 | "
            + "slot 0 is [1000000000,-1000000000;1,-1] | add(0, false, 0, 1, 1, 0) throws Arithmetic",
            "add(0, true, 0, 1, -1, 0) throws Arithmetic | back(0) = 0 | add(0, false, 0, 1, 2, 0) throws Arithmetic");
        Sentences.test(T, sentence, "typed [29999-29999i,-29999+29999i;1-i,-1+i] | parse(0, 1) = 2 | add(0, false, 0, 1, 1, 0) = 1 | "
            + "slot 0 is [30000-30000i,-30000+30000i;1-i,-1+i] | add(0, false, 0, 1, 1, 0) throws Arithmetic",
            // The first part would be 30001 alone, and then the second part.
            "typed [30000;1] | parse(1, 1) = 2 | add(1, false, 0, 1, 1, 0) throws Arithmetic | add(1, false, 0, 1, 0, 30000) = 1 | "
            + "add(1, false, 0, 1, 0, 1) throws Arithmetic | add(1, false, 0, 1, 0, -30000) = 2 | add(1, false, 0, 1, 0, -30000) = 3 | "
            + "add(1, false, 0, 1, 0, -1) throws Arithmetic");
        Sentences.test(T, sentence, "typed [1;x] | parse(0, 2) = 2 | add(0, false, 0, 1, 64, 0) = 1 | slot 0 is [x^7+1;x] | "
            + "add(0, false, 0, 1, 128, 0) throws Arithmetic",
            "typed [6x^7;x^4] | parse(1, 7) = 2 | add(1, false, 0, 1, 343, 0) = 1 | slot 1 is [0;x^4] | "
            + "add(1, false, 0, 1, 2401, 0) throws Arithmetic");
        Sentences.test(T, sentence, "typed [1,1000000000] | parse(0, 0) = 1 | typed [1;1] | parse(1, 0) = 2 | "
            + "multiply(0, 1, 2) throws Arithmetic | typed [0,1000000000] | parse(0, 0) = 1 | multiply(0, 1, 2) = 1 | "
            + "slot 2 is [1000000000]",
            // In the int type 65536 times 65536 is 0.
            "typed [65536] | parse(0, 0) = 1 | multiply(0, 0, 2) throws Arithmetic | typed [31623] | parse(0, 0) = 1 | "
            + "multiply(0, 0, 2) throws Arithmetic | typed [31622] | parse(0, 0) = 1 | multiply(0, 0, 2) = 1 | slot 2 is [999950884]");
        // Only in between: a step of a transfer, a sum and a product of a multiplication, and entries on the way to a form.
        Sentences.test(T, sentence, "typed [0;0] | parse(0, 0) = 2 | add(0, false, 0, 1, 1, 0) = 1 | add(0, false, 0, 1, -1, 0) = 2 | "
            + "typed [1000000000;1] | parse(1, 0) = 2 | transfer(0, 1, false) throws Arithmetic",
            "typed [999999999;1] | parse(1, 0) = 2 | transfer(0, 1, false) = 2 | slot 1 is [999999999;1]");
        Sentences.test(T, sentence, "typed [1,1,1] | parse(0, 0) = 1 | typed [1000000000;1;-1] | parse(1, 0) = 3 | "
            + "multiply(0, 1, 2) throws Arithmetic | typed [1000000000;-1;1] | parse(1, 0) = 3 | multiply(0, 1, 2) = 1 | "
            + "slot 2 is [1000000000]",
            "typed [2,2] | parse(0, 0) = 1 | typed [500000001;-500000001] | parse(1, 0) = 2 | multiply(0, 1, 2) throws Arithmetic | "
            + "typed [500000000;-500000000] | parse(1, 0) = 2 | multiply(0, 1, 2) = 1 | slot 2 is [0]");
        Sentences.test(T, sentence, "typed " + LARGE_IN_BETWEEN + " | parse(0, 0) = 3 | swap(0, true, 0, 1) = 1 | "
            + "swap(0, true, 0, 1) = 2 | hermite(0) throws Arithmetic | smith(0) throws Arithmetic | determinant(0, 0) throws Arithmetic",
            "invariant(0, 0, 0) throws Arithmetic | order(0) throws Arithmetic | sameSpan(0, 0) throws Arithmetic | "
            + "areEquivalent(0, 0) throws Arithmetic | kernel(0, 1) throws Arithmetic | kernel(0, 0) throws Arithmetic",
            "create(1, 0, 3, 1) = 1 | solve(0, 1, 2) throws Arithmetic | solve(0, 1, 0) throws Arithmetic | steps(0) = 2");
        Sentences.test(T, sentence, "typed [x^5,1;1,x^5] | parse(0, 2) = 2 | hermite(0) throws Arithmetic | smith(0) throws Arithmetic | "
            + "typed [x^3,1;1,x^4] | parse(0, 2) = 2 | hermite(0) = 2 | slot 0 is [1,x^4;0,x^7+1]",
            "typed [200,1;1,200] | parse(0, 1) = 2 | smith(0) throws Arithmetic | typed [173,1;1,173] | parse(0, 1) = 2 | smith(0) = 2 | "
            + "slot 0 is [1,0;0,29928]");
    }

    private static void sums() {
        String sentence = "When a multiple of a row, a column or an entry is added, only the sums must be in range, not the products.";
        Sentences.test(T, sentence, "typed [1000000000;-1000000000] | parse(0, 0) = 2 | add(0, false, 1, 0, 2, 0) = 1 | "
            + "slot 0 is [1000000000;1000000000] | back(0) = 0 | slot 0 is [1000000000;-1000000000] | "
            + "add(0, false, 1, 0, 3, 0) throws Arithmetic");
        Sentences.test(T, sentence, "typed [1000000000,-1000000000] | parse(0, 0) = 1 | add(0, true, 1, 0, 2, 0) = 1 | "
            + "slot 0 is [1000000000,1000000000] | add(0, true, 1, 0, 1, 0) throws Arithmetic");
        Sentences.test(T, sentence, "typed [30000+30000i;-30000-30000i] | parse(0, 1) = 2 | add(0, false, 1, 0, 2, 0) = 1 | "
            + "slot 0 is [30000+30000i;30000+30000i] | back(0) = 0 | add(0, false, 1, 0, 2, 1) throws Arithmetic");
        // An entry: x of solve() is 1000000000 - 4 * 500000000, and the product alone is out of range.
        Sentences.test(T, sentence, "typed [1,4;0,1] | parse(0, 0) = 2 | typed [1000000000;500000000] | parse(1, 0) = 2 | "
            + "solve(0, 1, 2) = 1 | slot 2 is [-1000000000;500000000]",
            "typed [999999999;500000000] | parse(1, 0) = 2 | solve(0, 1, 2) throws Arithmetic");
        // The row steps of solve(), and steps on the way to a form.
        Sentences.test(T, sentence, "typed [1;2] | parse(0, 0) = 2 | typed [500000001;1000000000] | parse(1, 0) = 2 | solve(0, 1, 2) = 0 | "
            + "typed [500000000;1000000000] | parse(1, 0) = 2 | solve(0, 1, 2) = 1 | slot 2 is [500000000]",
            "typed [1,1000000000;2,1000000000] | parse(0, 0) = 2 | hermite(0) = 2 | slot 0 is [1,0;0,1000000000] | smith(0) = 2");
    }

    private static void hermite() {
        Sentences.test(T, "A matrix is brought to its Hermite form by these row steps. Let r be 0. For each column c in ascending order, "
            + "as long as r is less than the number of rows:",
            // Behind the last row no column is looked at: -3 is neither a pivot nor reduced.
            "typed [-1,-3,7] | parse(0, 0) = 1 | hermite(0) = 1 | log 0 is 2,0,-1,-1,0 | slot 0 is [1,3,-7]",
            "typed [2,7;0,3] | parse(0, 0) = 2 | hermite(0) = 2 | log 0 is 1,0,1,-2,0 | slot 0 is [2,1;0,3]",
            "typed [0,0,0,-4] | parse(0, 0) = 1 | hermite(0) = 1 | slot 0 is [0,0,0,4]",
            "typed [0;0;0;-4] | parse(0, 0) = 4 | hermite(0) = 1 | slot 0 is [4;0;0;0] | log 0 is 0,0,3,0,0 2,0,-1,-1,0");
        Sentences.test(T, "If all entries of column c in the rows from r on are 0, nothing is done in this column.",
            "create(0, 0, 4, 4) = 1 | hermite(0) = 0 | log 0 is ",
            "typed [0,0;0,0;0,5] | parse(0, 0) = 3 | hermite(0) = 1 | log 0 is 0,0,2,0,0",
            // The 7 above r is left alone.
            "typed [1,7,0;0,0,1] | parse(0, 0) = 2 | hermite(0) = 2 | log 0 is ",
            "typed [1,7,9;0,0,-1] | parse(0, 0) = 2 | hermite(0) = 2 | log 0 is 2,1,-1,-1,0 1,0,1,-9,0 | slot 0 is [1,7,0;0,0,1]");
        Sentences.test(T, "Otherwise let i be the row, from r on, whose entry in column c is not 0 and has the smallest size; of several "
            + "the lowest one.",
            // A smaller entry above r does not count; of 3 and -3 the lower row is the first.
            "typed [1,1;0,5;0,3;0,-3] | parse(0, 0) = 4 | hermite(0) = 2 | step(0, 0, 0) = 0 | step(0, 0, 1) = 1 | step(0, 0, 2) = 2",
            "typed [0;4;2;2] | parse(0, 0) = 4 | hermite(0) = 1 | log 0 is 0,0,2,0,0 1,1,0,-2,0 1,3,0,-1,0",
            "typed [2;-2;2;-2] | parse(0, 0) = 4 | hermite(0) = 1 | log 0 is 1,1,0,1,0 1,2,0,-1,0 1,3,0,1,0",
            "typed [4;4;4;3] | parse(0, 0) = 4 | hermite(0) = 1 | step(0, 0, 2) = 3");
        Sentences.test(T, "If i is not r, row r and row i are swapped (in the step i is r, and j is this row). The entry in row r and "
            + "column c is now the pivot.",
            "typed [3;1] | parse(0, 0) = 2 | hermite(0) = 1 | log 0 is 0,0,1,0,0 1,1,0,-3,0",
            "typed [1;3] | parse(0, 0) = 2 | hermite(0) = 1 | log 0 is 1,1,0,-3,0",
            "typed [1,0;0,0;0,0;0,2] | parse(0, 0) = 4 | hermite(0) = 2 | log 0 is 0,1,3,0,0");
        Sentences.test(T, "For each row i greater than r, in ascending order, whose entry e in column c is not 0: (-q) times row r is "
            + "added to row i, where q is the quotient of e and the pivot.",
            "typed [2;0;-3;5] | parse(0, 0) = 4 | hermite(0) = 1 | step(0, 0, 1) = 2 | step(0, 0, 2) = 0 | step(0, 0, 3) = 2 | "
            + "step(0, 1, 1) = 3 | step(0, 1, 3) = -2 | entryAfter(0, 2, 2, 0, 0) = 1 | entryAfter(0, 2, 3, 0, 0) = 1",
            "typed [-2;-3] | parse(0, 0) = 2 | hermite(0) = 1 | step(0, 0, 3) = -2 | entryAfter(0, 1, 1, 0, 0) = 1");
        Sentences.test(T, "If a row greater than r has an entry in column c that is not 0, it goes on with 2.",
            "typed [2;3] | parse(0, 0) = 2 | hermite(0) = 1 | log 0 is 1,1,0,-1,0 0,0,1,0,0 1,1,0,-2,0",
            "typed [4;8] | parse(0, 0) = 2 | hermite(0) = 1 | log 0 is 1,1,0,-2,0",
            "typed [3;6;0;4] | parse(0, 0) = 4 | hermite(0) = 1 | log 0 is 1,1,0,-2,0 1,3,0,-1,0 0,0,3,0,0 1,3,0,-3,0");
        Sentences.test(T, "If the normalizer f of the pivot is not 1, row r is multiplied by f.",
            "typed [3,-4] | parse(0, 0) = 1 | hermite(0) = 1 | log 0 is ",
            "typed [-3,4] | parse(0, 0) = 1 | hermite(0) = 1 | log 0 is 2,0,-1,-1,0 | slot 0 is [3,-4]",
            "typed [1,0;0,-2] | parse(0, 0) = 2 | hermite(0) = 2 | log 0 is 2,1,-1,-1,0");
        Sentences.test(T, "For each row i less than r, in ascending order, let q be the quotient of its entry in column c and the (new) "
            + "pivot; if q is not 0, (-q) times row r is added to row i.",
            // By the new pivot 5 the quotient of 7 is 1, by -5 it would be -1; 4 and 0 have the quotient 0, 5 has 1, -1 has -1.
            "typed [1,7;0,-5] | parse(0, 0) = 2 | hermite(0) = 2 | log 0 is 2,1,-1,-1,0 1,0,1,-1,0 | slot 0 is [1,2;0,5]",
            "typed [1,4;0,5] | parse(0, 0) = 2 | hermite(0) = 2 | log 0 is ",
            "typed [1,0;0,5] | parse(0, 0) = 2 | hermite(0) = 2 | log 0 is ",
            "typed [1,5;0,5] | parse(0, 0) = 2 | hermite(0) = 2 | log 0 is 1,0,1,-1,0 | slot 0 is [1,0;0,5]",
            "typed [1,-1;0,5] | parse(0, 0) = 2 | hermite(0) = 2 | log 0 is 1,0,1,1,0 | slot 0 is [1,4;0,5]",
            "typed [1,0,6;0,1,-6;0,0,5] | parse(0, 0) = 3 | hermite(0) = 3 | log 0 is 1,0,2,-1,0 1,1,2,2,0 | slot 0 is [1,0,1;0,1,4;0,0,5]");
        Sentences.test(T, "7. r increases by 1.", "typed [1,0;0,1;0,0] | parse(0, 0) = 3 | hermite(0) = 2 | log 0 is ",
            "typed [0,1;0,0;0,1] | parse(0, 0) = 3 | hermite(0) = 1 | log 0 is 1,2,0,-1,0");
        Sentences.test(T, "The rank is r in the end.",
            Sentences.each("create(0, 0, #, 3) = 1 | hermite(0) = 0", 4),
            "typed [0,0,0;0,0,1] | parse(0, 0) = 2 | hermite(0) = 1", "typed [1,2;2,4;3,6;4,9] | parse(0, 0) = 4 | hermite(0) = 2",
            "typed [1,0,0,0;0,1,0,0;0,0,1,0;0,0,0,1] | parse(0, 0) = 4 | hermite(0) = 4 | log 0 is ",
            "typed [1,2,3,4] | parse(0, 0) = 1 | hermite(0) = 1");
    }

    private static void smith() {
        Sentences.test(T, "A matrix is brought to its Smith form by these steps. Let t be 0. As long as some entry with a row and a column "
            + "from t on is not 0 (t is less than the numbers of rows and columns then):",
            "create(0, 0, 4, 4) = 1 | smith(0) = 0 | log 0 is ", "create(0, 5, 1, 1) = 0 | smith(0) = 0 | log 0 is ",
            "typed [0,0,0;0,0,-2] | parse(0, 0) = 2 | smith(0) = 1 | log 0 is 0,0,1,0,0 3,0,2,0,0 2,0,-1,-1,0 | slot 0 is [2,0,0;0,0,0]",
            "typed [1,0,0,0;0,1,0,0;0,0,1,0;0,0,0,-1] | parse(0, 0) = 4 | smith(0) = 4 | log 0 is 2,3,-1,-1,0",
            "typed [0;0;0;3] | parse(0, 0) = 4 | smith(0) = 1 | log 0 is 0,0,3,0,0",
            "typed [0,0,0,3] | parse(0, 0) = 1 | smith(0) = 1 | log 0 is 3,0,3,0,0");
        Sentences.test(T, "Choose among these entries that are not 0 the one with the smallest size, of several the one with the lowest "
            + "row, and then with the lowest column.",
            // Behind t = 0 the 1 does not count any more.
            "typed [1,0,0;0,6,3;0,3,6] | parse(0, 0) = 3 | smith(0) = 3 | step(0, 0, 0) = 3 | step(0, 0, 1) = 1 | step(0, 0, 2) = 2",
            "typed [0,4,-2;2,4,2] | parse(0, 0) = 2 | smith(0) = 2 | step(0, 0, 0) = 3 | step(0, 0, 2) = 2",
            "typed [4,2,2;4,4,4] | parse(0, 0) = 2 | smith(0) = 2 | step(0, 0, 0) = 3 | step(0, 0, 2) = 1",
            "typed [4,4;4,2] | parse(0, 0) = 2 | smith(0) = 2 | step(0, 0, 0) = 0 | step(0, 1, 0) = 3",
            "typed [2,2;2,2] | parse(0, 0) = 2 | smith(0) = 1 | step(0, 0, 0) = 1");
        Sentences.test(T, "If its row is not t, row t and this row are swapped; then, if its column is not t, column t and this column are "
            + "swapped (in the step i is t). The entry in row t and column t is now the pivot.",
            "typed [0,0;0,3] | parse(0, 0) = 2 | smith(0) = 1 | log 0 is 0,0,1,0,0 3,0,1,0,0",
            "typed [0,0;3,0] | parse(0, 0) = 2 | smith(0) = 1 | log 0 is 0,0,1,0,0",
            "typed [0,3;0,0] | parse(0, 0) = 2 | smith(0) = 1 | log 0 is 3,0,1,0,0",
            "typed [3,0;0,0] | parse(0, 0) = 2 | smith(0) = 1 | log 0 is ",
            "typed [1,0,0,0;0,0,0,0;0,0,0,0;0,0,0,2] | parse(0, 0) = 4 | smith(0) = 2 | log 0 is 0,1,3,0,0 3,1,3,0,0");
        Sentences.test(T, "For each row i greater than t, in ascending order, whose entry e in column t is not 0: (-q) times row t is "
            + "added to row i, where q is the quotient of e and the pivot.",
            "typed [2;-4;0;6] | parse(0, 0) = 4 | smith(0) = 1 | log 0 is 1,1,0,2,0 1,3,0,-3,0");
        Sentences.test(T, "For each column i greater than t, in ascending order, whose entry e in row t is not 0: (-q) times column t is "
            + "added to column i, where q is the quotient of e and the pivot.",
            "typed [2,-4,0,6] | parse(0, 0) = 1 | smith(0) = 1 | log 0 is 4,1,0,2,0 4,3,0,-3,0",
            "typed [2,4;6,8] | parse(0, 0) = 2 | smith(0) = 2 | log 0 is 1,1,0,-3,0 4,1,0,-2,0 2,1,-1,-1,0");
        Sentences.test(T, "If there is an entry that is not 0 in column t in a row greater than t, or in row t in a column greater than t, "
            + "it goes on with 1.",
            "typed [2;3] | parse(0, 0) = 2 | smith(0) = 1 | log 0 is 1,1,0,-1,0 0,0,1,0,0 1,1,0,-2,0",
            "typed [2,3] | parse(0, 0) = 1 | smith(0) = 1 | log 0 is 4,1,0,-1,0 3,0,1,0,0 4,1,0,-2,0",
            "typed [2,0,0,3] | parse(0, 0) = 1 | smith(0) = 1 | log 0 is 4,3,0,-1,0 3,0,3,0,0 4,3,0,-2,0",
            "typed [2;0;0;3] | parse(0, 0) = 4 | smith(0) = 1 | log 0 is 1,3,0,-1,0 0,0,3,0,0 1,3,0,-2,0");
        String undivided = "If there is an entry with a row and a column greater than t that is not divisible by the pivot, let j be the "
            + "row of the first such entry"
            + " (the lowest row, then the lowest column): 1 times row j is added to row t, and it goes on with 3.";
        Sentences.test(T, undivided, "typed [2,0;0,4] | parse(0, 0) = 2 | smith(0) = 2 | log 0 is ",
            "typed [2,0,0;0,4,0;0,0,5] | parse(0, 0) = 3 | smith(0) = 3 | slot 0 is [1,0,0;0,2,0;0,0,20] | step(0, 0, 0) = 1 | "
            + "step(0, 0, 1) = 0 | step(0, 0, 2) = 2 | step(0, 0, 3) = 1",
            "typed [2,0,0;0,4,3;0,3,4] | parse(0, 0) = 3 | smith(0) = 3 | step(0, 0, 2) = 1",
            // 4 and 6 are both divisible by 2, -3 is not, and its quotient by 2 is -2.
            "typed [2,0,0;0,4,6;0,6,-3] | parse(0, 0) = 3 | smith(0) = 3 | step(0, 0, 2) = 2 | step(0, 1, 0) = 4 | step(0, 1, 1) = 1 | "
            + "step(0, 1, 3) = -3 | step(0, 2, 1) = 2 | step(0, 2, 3) = 2");
        // A smaller entry beside the pivot has the quotient 0, and the step is done all the same.
        Sentences.test(T, undivided, "typed [3,0,0;0,3,4;0,4,4] | parse(0, 0) = 3 | smith(0) = 3 | step(0, 0, 2) = 1",
            "typed [4,4;4,7] | parse(0, 0) = 2 | smith(0) = 2 | step(0, 2, 0) = 1 | step(0, 2, 1) = 0 | step(0, 2, 2) = 1 | "
            + "step(0, 2, 3) = 1 | step(0, 3, 0) = 4 | step(0, 3, 3) = 0",
            "typed [1,0;0,7] | parse(0, 0) = 2 | smith(0) = 2 | log 0 is ",
            "typed [x,0;0,x+1] | parse(0, 2) = 2 | smith(0) = 2 | slot 0 is [1,0;0,x^2+x]",
            "typed [x,0;0,x^2] | parse(0, 2) = 2 | smith(0) = 2 | log 0 is ");
        Sentences.test(T, "If the normalizer f of the pivot is not 1, row t is multiplied by f.",
            "typed [-2,0;0,-2] | parse(0, 0) = 2 | smith(0) = 2 | log 0 is 2,0,-1,-1,0 2,1,-1,-1,0",
            "typed [2,0;0,2] | parse(0, 0) = 2 | smith(0) = 2 | log 0 is ",
            "typed [3x,0;0,x] | parse(0, 7) = 2 | smith(0) = 2 | log 0 is 2,0,-1,5,0",
            "typed [i,0;0,-2] | parse(0, 1) = 2 | smith(0) = 2 | log 0 is 2,0,-1,0,-1 2,1,-1,-1,0");
        Sentences.test(T, "7. t increases by 1.", "typed [1,0;0,1;0,0] | parse(0, 0) = 3 | smith(0) = 2 | log 0 is ",
            "typed [2,0,0;0,0,0;0,0,2] | parse(0, 0) = 3 | smith(0) = 2 | log 0 is 0,1,2,0,0 3,1,2,0,0");
        Sentences.test(T, "The rank is t in the end.", "create(0, 0, 4, 1) = 1 | smith(0) = 0",
            "typed [5,7,9] | parse(0, 0) = 1 | smith(0) = 1", "typed [1,2;2,4;3,6;4,9] | parse(0, 0) = 4 | smith(0) = 2",
            "typed [1,0,0,0;0,1,0,0;0,0,1,0;0,0,0,1] | parse(0, 0) = 4 | smith(0) = 4 | log 0 is ");
        Sentences.test(T, "The invariants of a matrix are the entries of its Smith form with equal row and column, in order: first as many "
            + "as the rank, each of which divides the next one, and then zeros.",
            "typed [6,0,0;0,4,0;0,0,0] | parse(0, 0) = 3 | invariant(0, 0, 0) = 2 | invariant(0, 1, 0) = 12 | invariant(0, 2, 0) = 0 | "
            + "create(0, 0, 2, 2) = 0 | invariant(0, 0, 0) = 0 | invariant(0, 1, 0) = 0",
            "typed [10,0,0;0,6,0;0,0,15] | parse(0, 0) = 3 | invariant(0, 0, 0) = 1 | invariant(0, 1, 0) = 30 | invariant(0, 2, 0) = 30");
    }

    private static void copies() {
        String sentence = "Where a method uses the Hermite form or the Smith form of a matrix without bringing the matrix itself to it, "
            + "this is done with a copy, with an empty log (and fails if that fails).";
        // A full log of the slots does not matter, and stays.
        Sentences.test(T, sentence, "typed [2,4;6,8] | parse(0, 0) = 2 | times 200 scale(0, true, 0, 1, 0) | typed [2;2] | "
            + "parse(1, 0) = 2 | determinant(0, 0) = -8 | sameSpan(0, 0) = 1 | invariant(0, 1, 0) = 4 | order(0) = 8 | "
            + "areEquivalent(0, 0) = 1",
            "kernel(0, 2) = 0 unchanged | solve(0, 1, 2) = 1 | slot 2 is [-1;1] | hermite(0) throws Arithmetic | "
            + "smith(0) throws Arithmetic | steps(0) = 200 | slot 0 is [2,4;6,8]");
        Sentences.test(T, sentence, "typed [2;2] | parse(1, 0) = 2 | times 200 scale(1, false, 0, 1, 0) | typed [2,4;6,8] | "
            + "parse(0, 0) = 2 | solve(0, 1, 2) = 1 | slot 2 is [-1;1] | steps(1) = 200");
        // The copies' logs can be full, too: with 200 steps, but not with 201.
        Sentences.test(T, sentence, "typed " + HERMITE_200 + " | parse(0, 0) = 4 | determinant(0, 0) = 0 | sameSpan(0, 0) = 1 | "
            + "typed [1,0,0,0;0,1,0,0;0,0,1,0] | parse(1, 0) = 3 | sameSpan(0, 1) = 1 | sameSpan(1, 0) = 1");
        Sentences.test(T, sentence, "typed " + HERMITE_201 + " | parse(0, 0) = 4 | determinant(0, 0) throws Arithmetic | "
            + "sameSpan(0, 0) throws Arithmetic | create(1, 0, 1, 4) = 1 | sameSpan(0, 1) throws Arithmetic | "
            + "sameSpan(1, 0) throws Arithmetic");
        Sentences.test(T, sentence, "typed " + SMITH_200 + " | parse(0, 0) = 4 | invariant(0, 1, 0) = 1 | invariant(0, 2, 0) = 0 | "
            + "order(0) = 0 | areEquivalent(0, 0) = 1 | create(1, 0, 4, 1) = 1 | solve(0, 1, 2) = 1 | slot 2 is [0;0;0;0] | steps(0) = 0");
        Sentences.test(T, sentence, "typed " + SMITH_201 + " | parse(0, 0) = 4 | invariant(0, 1, 0) throws Arithmetic | "
            + "order(0) throws Arithmetic | areEquivalent(0, 0) throws Arithmetic | create(1, 0, 4, 1) = 1 | "
            + "solve(0, 1, 2) throws Arithmetic",
            "kernel(0, 2) throws Arithmetic | create(1, 0, 4, 4) = 0 | areEquivalent(0, 1) throws Arithmetic | "
            + "areEquivalent(1, 0) throws Arithmetic");
    }

    private static void exceptions() {
        String nothing = "A call that throws an exception changes nothing.";
        // All three slots, the text and what is written are there to be changed.
        String rich = "typed [2,-1000000000;1,1000000000] | parse(0, 0) = 2 | swap(0, false, 0, 1) = 1 | typed [x+1,x;x^7,1] | "
            + "parse(1, 2) = 2 | scale(1, true, 1, 1, 0) = 1 | add(1, true, 0, 1, 1, 0) = 2 | write(1) = 13 | typed [i,2";
        Sentences.test(T, nothing, rich, "create(0, 0, 5, 1) throws IllegalArgument | create(3, 0, 1, 1) throws IndexOutOfBounds | "
            + "set(0, 0, 0, 1000000001, 0) throws IllegalArgument | set(2, 0, 0, 1, 0) throws IllegalState | "
            + "set(0, 2, 0, 1, 0) throws IllegalArgument",
            "copy(2, 0) throws IllegalState | copy(0, 3) throws IndexOutOfBounds | multiply(0, 0, 1) throws Arithmetic | "
            + "multiply(0, 1, 0) throws IllegalState | multiply(1, 1, 0) throws Arithmetic",
            "swap(0, false, 1, 1) throws IllegalArgument | add(0, false, 1, 0, -2, 0) throws Arithmetic | "
            + "add(1, false, 0, 1, 2, 0) throws Arithmetic | scale(0, true, 0, 2, 0) throws IllegalArgument | back(2) throws IllegalState",
            "transfer(0, 1, false) throws IllegalState | transfer(0, 0, false) throws IllegalState | hermite(0) throws Arithmetic | "
            + "smith(0) throws Arithmetic | smith(1) throws Arithmetic | hermite(1) throws Arithmetic",
            "solve(0, 0, 0) throws IllegalState | kernel(0, 0) throws Arithmetic | kernel(0, 2) throws Arithmetic | "
            + "kernel(1, 2) throws Arithmetic | parse(0, 1) throws IllegalState | parse(0, 4) throws IllegalArgument | "
            + "type(256) throws IllegalArgument | type(-1) throws IllegalArgument",
            "write(2) throws IllegalState | write(3) throws IndexOutOfBounds | written(13) throws IndexOutOfBounds | "
            + "fault(4) throws IllegalArgument | invariant(0, 0, 0) throws Arithmetic | order(0) throws Arithmetic | "
            + "determinant(0, 0) throws Arithmetic",
            "sameSpan(0, 0) throws Arithmetic | areEquivalent(0, 0) throws Arithmetic | quotient(0, 1, 0, 0) throws Arithmetic | "
            + "gcd(0, 1, 1, 1, 0, 0) throws IllegalArgument | entry(0, 0, 0, 2) throws IllegalArgument | "
            + "entryAfter(0, 2, 0, 0, 0) throws IllegalArgument | step(0, 1, 0) throws IndexOutOfBounds");
        // Each pair of exceptions that one call can have; more of them stand with the promises.
        Sentences.test(T, "If several exceptions apply, the one that is listed first is thrown.",
            "create(3, 4, 5, 5) throws IndexOutOfBounds | set(-1, 9, 9, 1000000001, 1) throws IndexOutOfBounds | "
            + "set(0, 9, 9, 1000000001, 1) throws IllegalState",
            "copy(0, 3) throws IndexOutOfBounds | multiply(0, 0, 3) throws IndexOutOfBounds | entry(3, 9, 9, 9) throws IndexOutOfBounds | "
            + "entry(0, 9, 9, 9) throws IllegalState | swap(3, true, 9, 9) throws IndexOutOfBounds | "
            + "swap(0, true, 9, 9) throws IllegalState",
            "add(3, true, 9, 9, 1000000001, 1) throws IndexOutOfBounds | add(0, true, 9, 9, 1000000001, 1) throws IllegalState | "
            + "scale(3, true, 9, 0, 0) throws IndexOutOfBounds | scale(0, true, 9, 0, 0) throws IllegalState | "
            + "transfer(0, 3, true) throws IndexOutOfBounds",
            "step(0, 0, 5) throws IndexOutOfBounds | entryAfter(3, 9, 9, 9, 9) throws IndexOutOfBounds | "
            + "entryAfter(0, 9, 9, 9, 9) throws IllegalState | solve(0, 1, 3) throws IndexOutOfBounds | "
            + "kernel(0, 3) throws IndexOutOfBounds | invariant(3, 9, 9) throws IndexOutOfBounds",
            "invariant(0, 9, 9) throws IllegalState | determinant(3, 9) throws IndexOutOfBounds | determinant(0, 9) throws IllegalState | "
            + "sameSpan(0, 3) throws IndexOutOfBounds | areEquivalent(3, 0) throws IndexOutOfBounds | "
            + "quotient(0, 1, 0, 2) throws IllegalArgument",
            "parse(3, 4) throws IndexOutOfBounds | parse(0, 4) throws IllegalArgument | times 120 type(91) | "
            + "type(256) throws IllegalArgument | type(91) throws IllegalState");
    }
}
