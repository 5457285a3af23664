/** Promises 27 and 28: elements. */
public final class ElementsTest {
    public static void main(String[] arguments) {
        quotient();
        gcd();
        Script.finish();
    }

    private static void quotient() {
        Script.run("27 quotient, integers", "quotient(0, 7, 2, 0) = 3 | quotient(0, -7, 2, 0) = -4 | quotient(0, 7, -2, 0) = -3 | quotient(0, -7, -2, 0) = 4",
            "quotient(0, 6, -3, 0) = -2 | quotient(0, 0, 5, 0) = 0 | quotient(0, 7, 2, 1) = 0 | quotient(0, -1000000000, -1, 0) = 1000000000 | quotient(0, -1, 1000000000, 0) = -1");
        Script.run("27 quotient, Gaussian", "quotient(1, 7, 2, 0) = 4 | quotient(1, -7, 2, 0) = -3 | quotient(1, 7, -2, 0) = -3 | quotient(1, 7, 2, 1) = 0 | quotient(1, 8, 3, 0) = 3",
            "quotient(1, 7, 3, 0) = 2 | quotient(1, -30000, 30000, 0) = -1 | quotient(1, 30000, -1, 0) = -30000");
        Script.run("27 quotient, polynomials", "quotient(2, 7, 3, 0) = 2 | quotient(7, 60, 9, 0) = 13 | quotient(5, 3, 2, 0) = 4 | quotient(5, 3, 5, 0) = 0 | quotient(3, 6560, 1, 0) = 6560",
            "quotient(3, 6560, 2, 0) = 3280 | quotient(7, 5764800, 823543, 0) = 6 | quotient(7, 5, 3, 1) = 0");
        Script.run("27 quotient, wrong", "quotient(0, 5, 0, 0) throws Arithmetic | quotient(1, 5, 0, 1) throws Arithmetic | quotient(7, 0, 0, 0) throws Arithmetic",
            "quotient(4, 5, 0, 0) throws IllegalArgument | quotient(-1, 5, 1, 0) throws IllegalArgument | quotient(0, 5, 0, 2) throws IllegalArgument | quotient(0, 5, 1, -1) throws IllegalArgument",
            "quotient(0, 1000000001, 1, 0) throws IllegalArgument | quotient(0, 1, -1000000001, 0) throws IllegalArgument | quotient(1, 30001, 1, 0) throws IllegalArgument",
            "quotient(1, 1, -30001, 0) throws IllegalArgument | quotient(2, 256, 1, 0) throws IllegalArgument | quotient(2, 1, -1, 0) throws IllegalArgument | quotient(2, -2147483648, 1, 0) throws IllegalArgument");
    }

    private static void gcd() {
        Script.run("28 gcd, integers", "gcd(0, 12, 0, 18, 0, 0) = 6 | gcd(0, -12, 0, 0, 0, 0) = 12 | gcd(0, 0, 0, -5, 0, 0) = 5 | gcd(0, 0, 0, 0, 0, 0) = 0 | gcd(0, -12, 0, -18, 0, 0) = 6",
            "gcd(0, 12, 0, 18, 0, 1) = 0 | gcd(0, 701408733, 0, 433494437, 0, 0) = 1 | gcd(0, -1000000000, 0, 1000000000, 0, 0) = 1000000000");
        Script.run("28 gcd, Gaussian", "gcd(1, 3, 1, 1, -2, 0) = 1 | gcd(1, 3, 1, 1, -2, 1) = 0 | gcd(1, 0, 0, 0, -3, 0) = 3 | gcd(1, 0, 0, 0, -3, 1) = 0 | gcd(1, 2, 0, 1, 1, 0) = 1 | gcd(1, 2, 0, 1, 1, 1) = 1",
            "gcd(1, -3, 2, 0, 0, 0) = 2 | gcd(1, -3, 2, 0, 0, 1) = 3 | gcd(1, 3, -2, 0, 0, 0) = 2 | gcd(1, 3, -2, 0, 0, 1) = 3 | gcd(1, -3, -2, 0, 0, 0) = 3 | gcd(1, 30000, 30000, -30000, 30000, 0) = 30000",
            "gcd(1, 30000, 30000, -30000, 30000, 1) = 30000 | gcd(1, 0, 0, 0, 0, 1) = 0 | gcd(1, -3, 0, 0, 0, 0) = 3 | gcd(1, -3, 0, 0, 0, 1) = 0 | gcd(1, 0, 3, 0, 0, 0) = 3");
        Script.run("28 gcd, polynomials", "gcd(2, 5, 0, 3, 0, 0) = 3 | gcd(3, 2, 0, 0, 0, 0) = 1 | gcd(5, 31, 0, 26, 0, 0) = 1 | gcd(7, 0, 0, 21, 0, 0) = 7 | gcd(3, 0, 0, 0, 0, 0) = 0 | gcd(2, 128, 0, 12, 0, 0) = 4");
        Script.run("28 gcd, wrong", "gcd(4, 1, 0, 1, 0, 0) throws IllegalArgument | gcd(0, 1, 1, 1, 0, 0) throws IllegalArgument | gcd(0, 1, 0, 1, 1, 0) throws IllegalArgument",
            "gcd(0, 1000000001, 0, 1, 0, 0) throws IllegalArgument | gcd(0, 1, 0, -1000000001, 0, 0) throws IllegalArgument | gcd(1, 0, 30001, 1, 0, 0) throws IllegalArgument",
            "gcd(1, 0, 0, 1, -30001, 0) throws IllegalArgument | gcd(2, 1, 0, 256, 0, 0) throws IllegalArgument | gcd(2, 1, 1, 1, 0, 0) throws IllegalArgument | gcd(2, -1, 0, 1, 0, 0) throws IllegalArgument",
            "gcd(0, 1, 0, 1, 0, 2) throws IllegalArgument | gcd(0, 1, 0, 1, 0, -1) throws IllegalArgument");
    }
}
