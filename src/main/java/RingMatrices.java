import java.util.Arrays;

/**
 * Matrices over Euclidean rings: Hermite and Smith normal forms over the integers, the Gaussian
 * integers and polynomials over small prime fields, with a log of all steps.
 */
public final class RingMatrices {

    /** There is none. */
    public static final int NONE = -1;

    private static final int SLOTS = 3;
    private static final int SIDE = 4;
    private static final int LOG_LIMIT = 200;
    private static final int TEXT_LIMIT = 120;
    /** The longest text has sixteen polynomials of 34 bytes and 17 bytes between them. */
    private static final int WRITTEN_LIMIT = 561;
    private static final long ORDER_LIMIT = 1000000000000000000L;
    /** Far above the turns that Euclid's algorithm can need for elements that are in range. */
    private static final int GCD_TURNS = 1000;

    private static final int SWAP = 0;
    private static final int ADD = 1;
    private static final int SCALE = 2;
    /** The kinds of column steps are those of row steps plus this. */
    private static final int COLUMN_KINDS = 3;

    private final Ring[] rings;
    private final Matrix[] slots;
    private final Text typed;
    private final Text output;
    private final MatrixReader reader;
    /** Copies that a call works on, so that a slot changes only when nothing can fail any more. */
    private final Matrix work;
    private final Matrix spare;
    private final Matrix answer;

    public RingMatrices() {
        Ring integers = new Integers();
        rings = new Ring[] {
            integers, new Gaussians(), new Polynomials(2), new Polynomials(3), new Polynomials(5), new Polynomials(7)
        };
        slots = new Matrix[] {new Matrix(integers), new Matrix(integers), new Matrix(integers)};
        work = new Matrix(integers);
        spare = new Matrix(integers);
        answer = new Matrix(integers);
        typed = new Text(TEXT_LIMIT);
        output = new Text(WRITTEN_LIMIT);
        reader = new MatrixReader(typed);
    }

    // ---- matrices

    public int create(int slot, int ring, int rows, int columns)
            throws IndexOutOfBoundsException, IllegalArgumentException {
        Matrix matrix = matrixIn(slot);
        Ring chosen = ringNumbered(ring);
        requireArgument(rows >= 1 && rows <= SIDE && columns >= 1 && columns <= SIDE);
        int answered = matrix.isEmpty() ? 1 : 0;
        matrix.becomeZero(chosen, rows, columns);
        return answered;
    }

    public int set(int slot, int row, int column, int first, int second)
            throws IndexOutOfBoundsException, IllegalStateException, IllegalArgumentException {
        Matrix matrix = filledIn(slot);
        requireArgument(matrix.isCell(row, column) && matrix.ring.isInRange(first, second));
        int previous = Ring.firstPart(matrix.at(row, column));
        matrix.put(row, column, Ring.element(first, second));
        matrix.beginLog();
        return previous;
    }

    public int copy(int from, int to) throws IndexOutOfBoundsException, IllegalStateException {
        Matrix target = matrixIn(to);
        Matrix source = filledIn(from);
        target.become(source);
        return source.count;
    }

    public int multiply(int left, int right, int to)
            throws IndexOutOfBoundsException, IllegalStateException, ArithmeticException {
        Matrix target = matrixIn(to);
        Matrix one = matrixIn(left);
        Matrix other = matrixIn(right);
        requireState(!one.isEmpty() && !other.isEmpty() && one.hasRingOf(other) && one.width == other.height);
        work.becomeZero(one.ring, one.height, other.width);
        for (int row = 0; row < one.height; row++) {
            for (int column = 0; column < other.width; column++) {
                work.put(row, column, productEntry(one, other, row, column));
            }
        }
        target.becomeUnlogged(work);
        return target.width;
    }

    public int ring(int slot) throws IndexOutOfBoundsException {
        Matrix matrix = matrixIn(slot);
        return matrix.isEmpty() ? NONE : matrix.ring.number;
    }

    public int rows(int slot) throws IndexOutOfBoundsException {
        return matrixIn(slot).height;
    }

    public int columns(int slot) throws IndexOutOfBoundsException {
        return matrixIn(slot).width;
    }

    public int entry(int slot, int row, int column, int part)
            throws IndexOutOfBoundsException, IllegalStateException, IllegalArgumentException {
        Matrix matrix = filledIn(slot);
        requireArgument(matrix.isCell(row, column) && isPart(part));
        return partOf(matrix.at(row, column), part);
    }

    // ---- steps

    public int swap(int slot, boolean columns, int i, int j)
            throws IndexOutOfBoundsException, IllegalStateException, IllegalArgumentException, ArithmeticException {
        Matrix matrix = filledIn(slot);
        requireArgument(matrix.isLine(columns, i) && matrix.isLine(columns, j) && i != j);
        matrix.perform(kindOf(SWAP, columns), i, j, Ring.ZERO);
        return matrix.count;
    }

    public int add(int slot, boolean columns, int i, int j, int first, int second)
            throws IndexOutOfBoundsException, IllegalStateException, IllegalArgumentException, ArithmeticException {
        Matrix matrix = filledIn(slot);
        requireArgument(matrix.isLine(columns, i) && matrix.isLine(columns, j) && i != j);
        requireArgument(matrix.ring.isInRange(first, second));
        matrix.perform(kindOf(ADD, columns), i, j, Ring.element(first, second));
        return matrix.count;
    }

    public int scale(int slot, boolean columns, int i, int first, int second)
            throws IndexOutOfBoundsException, IllegalStateException, IllegalArgumentException, ArithmeticException {
        Matrix matrix = filledIn(slot);
        requireArgument(matrix.isLine(columns, i) && matrix.ring.isInRange(first, second));
        long factor = Ring.element(first, second);
        requireArgument(matrix.ring.isUnit(factor));
        matrix.perform(kindOf(SCALE, columns), i, NONE, factor);
        return matrix.count;
    }

    public int back(int slot) throws IndexOutOfBoundsException, IllegalStateException {
        Matrix matrix = filledIn(slot);
        requireState(matrix.count > 0);
        matrix.takeBack();
        return matrix.count;
    }

    public int transfer(int from, int to, boolean columns)
            throws IndexOutOfBoundsException, IllegalStateException, ArithmeticException {
        Matrix source = matrixIn(from);
        Matrix target = matrixIn(to);
        requireState(!source.isEmpty() && !target.isEmpty() && from != to && source.hasRingOf(target));
        requireState(source.lines(columns) == target.lines(columns));
        work.become(target);
        int done = work.performStepsOf(source, columns);
        target.become(work);
        return done;
    }

    public int hermite(int slot) throws IndexOutOfBoundsException, IllegalStateException, ArithmeticException {
        Matrix matrix = filledIn(slot);
        work.become(matrix);
        int rank = HermiteForm.reach(work);
        matrix.become(work);
        return rank;
    }

    public int smith(int slot) throws IndexOutOfBoundsException, IllegalStateException, ArithmeticException {
        Matrix matrix = filledIn(slot);
        work.become(matrix);
        int rank = SmithForm.reach(work);
        matrix.become(work);
        return rank;
    }

    public int steps(int slot) throws IndexOutOfBoundsException {
        return matrixIn(slot).count;
    }

    public int step(int slot, int step, int what) throws IndexOutOfBoundsException, IllegalArgumentException {
        Matrix matrix = matrixIn(slot);
        if (step < 0 || step >= matrix.count) {
            throw new IndexOutOfBoundsException("no such step");
        }
        requireArgument(what >= 0 && what <= 4);
        if (what == 0) {
            return matrix.kinds[step];
        }
        if (what == 1) {
            return matrix.targets[step];
        }
        if (what == 2) {
            return matrix.sources[step];
        }
        return partOf(matrix.factors[step], what - 3);
    }

    public int entryAfter(int slot, int steps, int row, int column, int part)
            throws IndexOutOfBoundsException, IllegalStateException, IllegalArgumentException {
        Matrix matrix = filledIn(slot);
        requireArgument(steps >= 0 && steps <= matrix.count);
        requireArgument(matrix.isCell(row, column) && isPart(part));
        work.replay(matrix, steps);
        return partOf(work.at(row, column), part);
    }

    // ---- systems, invariants

    public int solve(int matrix, int right, int to)
            throws IndexOutOfBoundsException, IllegalStateException, ArithmeticException {
        Matrix target = matrixIn(to);
        Matrix system = matrixIn(matrix);
        Matrix sides = matrixIn(right);
        requireState(!system.isEmpty() && !sides.isEmpty() && system.hasRingOf(sides));
        requireState(sides.width == 1 && sides.height == system.height);
        work.becomeUnlogged(system);
        int rank = SmithForm.reach(work);
        spare.becomeUnlogged(sides);
        spare.performStepsOf(work, false);
        if (!divideSides(rank)) {
            return 0;
        }
        answer.followColumnStepsBack(work);
        target.becomeUnlogged(answer);
        return 1;
    }

    public int kernel(int matrix, int to)
            throws IndexOutOfBoundsException, IllegalStateException, ArithmeticException {
        Matrix target = matrixIn(to);
        Matrix system = filledIn(matrix);
        work.becomeUnlogged(system);
        int rank = SmithForm.reach(work);
        int found = work.width - rank;
        if (found <= 0) {
            return 0;
        }
        answer.becomeZero(work.ring, work.width, found);
        for (int k = 0; k < found; k++) {
            answer.put(rank + k, k, Ring.ONE);
        }
        answer.followColumnStepsBack(work);
        target.becomeUnlogged(answer);
        return found;
    }

    public int invariant(int slot, int index, int part)
            throws IndexOutOfBoundsException, IllegalStateException, IllegalArgumentException, ArithmeticException {
        Matrix matrix = filledIn(slot);
        requireArgument(matrix.isCell(index, index) && isPart(part));
        work.becomeUnlogged(matrix);
        SmithForm.reach(work);
        return partOf(work.at(index, index), part);
    }

    public long order(int slot) throws IndexOutOfBoundsException, IllegalStateException, ArithmeticException {
        Matrix matrix = filledIn(slot);
        work.becomeUnlogged(matrix);
        if (SmithForm.reach(work) < work.height) {
            return 0;
        }
        long number = 1;
        for (int k = 0; k < work.height; k++) {
            long factor = work.ring.residues(work.at(k, k));
            if (factor < 1 || number > ORDER_LIMIT / factor) {
                throw new ArithmeticException("the order is too large");
            }
            number *= factor;
        }
        return number;
    }

    public int determinant(int slot, int part)
            throws IndexOutOfBoundsException, IllegalStateException, IllegalArgumentException, ArithmeticException {
        Matrix matrix = filledIn(slot);
        requireState(matrix.height == matrix.width);
        requireArgument(isPart(part));
        work.becomeUnlogged(matrix);
        if (HermiteForm.reach(work) < work.height) {
            return 0;
        }
        return partOf(determinantOfWork(), part);
    }

    public boolean sameSpan(int one, int other)
            throws IndexOutOfBoundsException, IllegalStateException, ArithmeticException {
        Matrix left = matrixIn(one);
        Matrix right = matrixIn(other);
        requireState(!left.isEmpty() && !right.isEmpty());
        if (!left.hasRingOf(right) || left.width != right.width) {
            return false;
        }
        work.becomeUnlogged(left);
        spare.becomeUnlogged(right);
        int rank = HermiteForm.reach(work);
        int otherRank = HermiteForm.reach(spare);
        return rank == otherRank && work.hasRowsOf(spare, rank);
    }

    public boolean areEquivalent(int one, int other)
            throws IndexOutOfBoundsException, IllegalStateException, ArithmeticException {
        Matrix left = matrixIn(one);
        Matrix right = matrixIn(other);
        requireState(!left.isEmpty() && !right.isEmpty());
        if (!left.hasRingOf(right) || left.height != right.height || left.width != right.width) {
            return false;
        }
        work.becomeUnlogged(left);
        spare.becomeUnlogged(right);
        SmithForm.reach(work);
        SmithForm.reach(spare);
        // Both are diagonal, so equal rows mean equal invariants.
        return work.hasRowsOf(spare, work.height);
    }

    // ---- elements

    public int quotient(int ring, int a, int b, int part) throws IllegalArgumentException, ArithmeticException {
        Ring chosen = ringNumbered(ring);
        requireArgument(chosen.isInRange(a, 0) && chosen.isInRange(b, 0) && isPart(part));
        if (b == 0) {
            throw new ArithmeticException("the divisor is 0");
        }
        return partOf(chosen.dividedBy(Ring.element(a, 0), Ring.element(b, 0)), part);
    }

    public int gcd(int ring, int aFirst, int aSecond, int bFirst, int bSecond, int part)
            throws IllegalArgumentException {
        Ring chosen = ringNumbered(ring);
        requireArgument(chosen.isInRange(aFirst, aSecond) && chosen.isInRange(bFirst, bSecond) && isPart(part));
        long a = Ring.element(aFirst, aSecond);
        long b = Ring.element(bFirst, bSecond);
        for (int turn = 0; turn < GCD_TURNS && b != Ring.ZERO; turn++) {
            long remainder = chosen.remainder(a, b);
            a = b;
            b = remainder;
        }
        return partOf(chosen.product(a, chosen.normalizer(a)), part);
    }

    // ---- texts

    public int type(int code) throws IllegalArgumentException, IllegalStateException {
        requireArgument(code >= 0 && code <= 255);
        requireState(typed.length < TEXT_LIMIT);
        typed.append(code);
        return typed.length;
    }

    public int clearText() {
        int length = typed.length;
        typed.length = 0;
        return length;
    }

    public int fault(int ring) throws IllegalArgumentException {
        Ring chosen = ringNumbered(ring);
        return reader.readMatrix(chosen, work);
    }

    public int parse(int slot, int ring)
            throws IndexOutOfBoundsException, IllegalArgumentException, IllegalStateException {
        Matrix matrix = matrixIn(slot);
        Ring chosen = ringNumbered(ring);
        requireState(reader.readMatrix(chosen, work) == NONE);
        matrix.becomeUnlogged(work);
        typed.length = 0;
        return matrix.height;
    }

    public int write(int slot) throws IndexOutOfBoundsException, IllegalStateException {
        Matrix matrix = filledIn(slot);
        output.length = 0;
        for (int row = 0; row < matrix.height; row++) {
            output.append(row == 0 ? '[' : ';');
            for (int column = 0; column < matrix.width; column++) {
                if (column > 0) {
                    output.append(',');
                }
                matrix.ring.writeTo(output, matrix.at(row, column));
            }
        }
        output.append(']');
        return output.length;
    }

    public int written(int index) throws IndexOutOfBoundsException {
        if (index < 0 || index >= output.length) {
            throw new IndexOutOfBoundsException("no such byte");
        }
        return output.codeAt(index);
    }

    // ---- what the calls share

    private Matrix matrixIn(int slot) {
        if (slot < 0 || slot >= SLOTS) {
            throw new IndexOutOfBoundsException("no such slot");
        }
        return slots[slot];
    }

    private Matrix filledIn(int slot) {
        Matrix matrix = matrixIn(slot);
        requireState(!matrix.isEmpty());
        return matrix;
    }

    private Ring ringNumbered(int number) {
        for (int k = 0; k < rings.length; k++) {
            if (rings[k].number == number) {
                return rings[k];
            }
        }
        throw new IllegalArgumentException("no such ring");
    }

    private static void requireArgument(boolean holds) {
        if (!holds) {
            throw new IllegalArgumentException("an argument is out of range");
        }
    }

    private static void requireState(boolean holds) {
        if (!holds) {
            throw new IllegalStateException("the slots or the text do not allow this call");
        }
    }

    private static boolean isPart(int part) {
        return part == 0 || part == 1;
    }

    private static int partOf(long element, int part) {
        return part == 0 ? Ring.firstPart(element) : Ring.secondPart(element);
    }

    private static int kindOf(int rowKind, boolean columns) {
        return columns ? rowKind + COLUMN_KINDS : rowKind;
    }

    private static long productEntry(Matrix left, Matrix right, int row, int column) {
        Ring ring = left.ring;
        long sum = Ring.ZERO;
        for (int k = 0; k < left.width; k++) {
            // The product is made by itself, because it must be in range by itself.
            long product = ring.product(left.at(row, k), right.at(k, column));
            sum = ring.plusProduct(sum, Ring.ONE, product);
        }
        return sum;
    }

    /** Puts y of solve() into answer, from c in spare and the invariants in work; false if there is none. */
    private boolean divideSides(int rank) {
        Ring ring = work.ring;
        answer.becomeZero(ring, work.width, 1);
        for (int k = 0; k < spare.height; k++) {
            long side = spare.at(k, 0);
            if (k >= rank) {
                if (side != Ring.ZERO) {
                    return false;
                }
                continue;
            }
            long invariant = work.at(k, k);
            if (ring.remainder(side, invariant) != Ring.ZERO) {
                return false;
            }
            answer.put(k, 0, ring.dividedBy(side, invariant));
        }
        return true;
    }

    private long determinantOfWork() {
        Ring ring = work.ring;
        long product = Ring.ONE;
        for (int k = 0; k < work.height; k++) {
            product = ring.product(product, work.at(k, k));
        }
        for (int step = 0; step < work.count; step++) {
            if (work.kinds[step] == SWAP) {
                product = ring.negated(product);
            } else if (work.kinds[step] == SCALE) {
                product = ring.product(product, ring.inverse(work.factors[step]));
            }
        }
        return product;
    }

    /**
     * A Euclidean ring. An element is held as one long, the first part in its upper half and the
     * second part in its lower half, so that reckoning makes no objects.
     */
    private abstract static class Ring {
        static final long ZERO = 0L;
        static final long ONE = 1L << 32;

        final int number;

        Ring(int number) {
            this.number = number;
        }

        static long element(long first, long second) {
            return first << 32 | second & 0xffffffffL;
        }

        static int firstPart(long element) {
            return (int) (element >> 32);
        }

        static int secondPart(long element) {
            return (int) element;
        }

        /** Whether these are the parts of an element that is in range. */
        abstract boolean isInRange(long first, long second);

        /** The sum of a and f times b; an ArithmeticException if the sum is out of range. */
        abstract long plusProduct(long a, long f, long b);

        abstract long negated(long a);

        /** The quotient of a and b; 0 if b is 0. It and its negative are in range if a and b are. */
        abstract long dividedBy(long a, long b);

        abstract long size(long a);

        /** The unit whose product with a is normal; 1 if a is 0. */
        abstract long normalizer(long a);

        abstract long inverse(long unit);

        /** The number of elements modulo a, which is not 0. */
        abstract long residues(long a);

        abstract long readFrom(MatrixReader reader);

        abstract void writeTo(Text text, long a);

        final long product(long a, long b) {
            return plusProduct(ZERO, a, b);
        }

        final long minusQuotient(long a, long b) {
            return negated(dividedBy(a, b));
        }

        final long remainder(long a, long b) {
            return plusProduct(a, negated(dividedBy(a, b)), b);
        }

        final boolean isUnit(long a) {
            return size(a) == 1;
        }
    }

    private static final class Integers extends Ring {
        private static final int LIMIT = 1000000000;
        private static final int DIGITS = 10;

        Integers() {
            super(0);
        }

        @Override
        boolean isInRange(long first, long second) {
            return first >= -LIMIT && first <= LIMIT && second == 0;
        }

        @Override
        long plusProduct(long a, long f, long b) {
            long sum = firstPart(a) + (long) firstPart(f) * firstPart(b);
            if (!isInRange(sum, 0)) {
                throw new ArithmeticException("an integer is out of range");
            }
            return element(sum, 0);
        }

        @Override
        long negated(long a) {
            return element(-firstPart(a), 0);
        }

        @Override
        long dividedBy(long a, long b) {
            int divisor = firstPart(b);
            if (divisor == 0) {
                return ZERO;
            }
            // Rounding down leaves a remainder of at least 0 only when the divisor is above 0.
            int rounded = Math.floorDiv(firstPart(a), Math.abs(divisor));
            return element(divisor > 0 ? rounded : -rounded, 0);
        }

        @Override
        long size(long a) {
            return Math.abs(firstPart(a));
        }

        @Override
        long normalizer(long a) {
            return element(firstPart(a) < 0 ? -1 : 1, 0);
        }

        @Override
        long inverse(long unit) {
            return unit;
        }

        @Override
        long residues(long a) {
            return size(a);
        }

        @Override
        long readFrom(MatrixReader reader) {
            boolean minus = reader.take('-');
            long value = reader.takeNumber(DIGITS, LIMIT);
            return element(minus ? -value : value, 0);
        }

        @Override
        void writeTo(Text text, long a) {
            text.appendNumber(firstPart(a));
        }
    }

    private static final class Gaussians extends Ring {
        private static final int LIMIT = 30000;
        private static final int DIGITS = 5;

        Gaussians() {
            super(1);
        }

        @Override
        boolean isInRange(long first, long second) {
            return first >= -LIMIT && first <= LIMIT && second >= -LIMIT && second <= LIMIT;
        }

        @Override
        long plusProduct(long a, long f, long b) {
            long f1 = firstPart(f);
            long f2 = secondPart(f);
            long b1 = firstPart(b);
            long b2 = secondPart(b);
            long first = firstPart(a) + f1 * b1 - f2 * b2;
            long second = secondPart(a) + f1 * b2 + f2 * b1;
            if (!isInRange(first, second)) {
                throw new ArithmeticException("a Gaussian integer is out of range");
            }
            return element(first, second);
        }

        @Override
        long negated(long a) {
            return element(-firstPart(a), -secondPart(a));
        }

        @Override
        long dividedBy(long a, long b) {
            long n = size(b);
            if (n == 0) {
                return ZERO;
            }
            long a1 = firstPart(a);
            long a2 = secondPart(a);
            long b1 = firstPart(b);
            long b2 = secondPart(b);
            long x = a1 * b1 + a2 * b2;
            long y = a2 * b1 - a1 * b2;
            return element(Math.floorDiv(2 * x + n, 2 * n), Math.floorDiv(2 * y + n, 2 * n));
        }

        @Override
        long size(long a) {
            long first = firstPart(a);
            long second = secondPart(a);
            return first * first + second * second;
        }

        @Override
        long normalizer(long a) {
            int first = firstPart(a);
            int second = secondPart(a);
            if (first <= 0 && second > 0) {
                return element(0, -1);
            }
            if (first < 0) {
                return element(-1, 0);
            }
            return second < 0 ? element(0, 1) : ONE;
        }

        @Override
        long inverse(long unit) {
            return element(firstPart(unit), -secondPart(unit));
        }

        @Override
        long residues(long a) {
            return size(a);
        }

        @Override
        long readFrom(MatrixReader reader) {
            boolean minus = reader.take('-');
            if (reader.take('i')) {
                return element(0, minus ? -1 : 1);
            }
            long value = reader.takeNumber(DIGITS, LIMIT);
            long first = minus ? -value : value;
            if (reader.hasFault()) {
                return ZERO;
            }
            if (reader.take('i')) {
                return element(0, first);
            }
            boolean plus = reader.take('+');
            if (!plus && !reader.take('-')) {
                return element(first, 0);
            }
            long second = reader.isAtDigit() ? reader.takeNumber(DIGITS, LIMIT) : 1;
            reader.expect('i');
            return element(first, plus ? second : -second);
        }

        @Override
        void writeTo(Text text, long a) {
            int first = firstPart(a);
            int second = secondPart(a);
            if (first != 0 || second == 0) {
                text.appendNumber(first);
            }
            if (second == 0) {
                return;
            }
            if (first != 0 && second > 0) {
                text.append('+');
            }
            if (second == -1) {
                text.append('-');
            } else if (second != 1) {
                text.appendNumber(second);
            }
            text.append('i');
        }
    }

    /** Polynomials over the field with p elements; the arrays hold coefficients by their exponents. */
    private static final class Polynomials extends Ring {
        private static final int COEFFICIENTS = 8;

        private final int p;
        private final int bound;
        private final int[] left;
        private final int[] right;
        private final int[] total;

        Polynomials(int prime) {
            super(prime);
            // It divides, so it must never be 0.
            p = Math.max(prime, 2);
            int power = 1;
            for (int k = 0; k < COEFFICIENTS; k++) {
                power *= p;
            }
            bound = power;
            left = new int[COEFFICIENTS];
            right = new int[COEFFICIENTS];
            total = new int[COEFFICIENTS];
        }

        @Override
        boolean isInRange(long first, long second) {
            return first >= 0 && first < bound && second == 0;
        }

        @Override
        long plusProduct(long a, long f, long b) {
            if (f == ZERO || b == ZERO) {
                return a;
            }
            int degree = spread(f, left) + spread(b, right);
            // No term of a can cancel a leading term of so high a degree.
            if (degree >= COEFFICIENTS) {
                throw new ArithmeticException("a polynomial is out of range");
            }
            spread(a, total);
            for (int i = 0; i < COEFFICIENTS; i++) {
                for (int j = 0; i + j < COEFFICIENTS; j++) {
                    total[i + j] += left[i] * right[j];
                }
            }
            return gather(total);
        }

        @Override
        long negated(long a) {
            spread(a, total);
            for (int k = 0; k < COEFFICIENTS; k++) {
                total[k] = p - total[k];
            }
            return gather(total);
        }

        @Override
        long dividedBy(long a, long b) {
            if (b == ZERO) {
                return ZERO;
            }
            spread(a, total);
            int degree = Math.max(spread(b, right), 0);
            int inverse = inverseOf(right[degree]);
            Arrays.fill(left, 0);
            for (int k = COEFFICIENTS - 1 - degree; k >= 0; k--) {
                int coefficient = total[k + degree] * inverse % p;
                left[k] = coefficient;
                for (int j = 0; j <= degree; j++) {
                    total[k + j] = (total[k + j] + (p - coefficient) * right[j]) % p;
                }
            }
            return gather(left);
        }

        @Override
        long size(long a) {
            return 1 + spread(a, total);
        }

        @Override
        long normalizer(long a) {
            int degree = spread(a, total);
            return degree < 0 ? ONE : element(inverseOf(total[degree]), 0);
        }

        @Override
        long inverse(long unit) {
            return element(inverseOf(firstPart(unit)), 0);
        }

        @Override
        long residues(long a) {
            int degree = spread(a, total);
            long power = 1;
            for (int k = 0; k < degree; k++) {
                power *= p;
            }
            return power;
        }

        @Override
        long readFrom(MatrixReader reader) {
            Arrays.fill(total, 0);
            int above = COEFFICIENTS;
            // The exponents decrease, so that a ninth term has a fault.
            for (int term = 0; term <= COEFFICIENTS; term++) {
                int start = reader.position;
                boolean hasDigit = reader.isAtDigit();
                int coefficient = hasDigit ? reader.takeDigit(p - 1) : 1;
                int exponent = readPower(reader, hasDigit);
                if (exponent >= above) {
                    reader.failAt(start);
                }
                if (reader.hasFault() || exponent < 0 || exponent >= COEFFICIENTS) {
                    return ZERO;
                }
                total[exponent] = coefficient;
                above = exponent;
                if (!reader.take('+')) {
                    break;
                }
            }
            return gather(total);
        }

        /** Goes over a power of x, which may be missing behind a digit; the answer is its exponent. */
        private static int readPower(MatrixReader reader, boolean mayBeMissing) {
            if (reader.take('x')) {
                return reader.take('^') ? reader.takeDigit(COEFFICIENTS - 1) : 1;
            }
            if (!mayBeMissing) {
                reader.failAt(reader.position);
            }
            return 0;
        }

        @Override
        void writeTo(Text text, long a) {
            int degree = spread(a, total);
            if (degree < 0) {
                text.append('0');
            }
            for (int k = COEFFICIENTS - 1; k >= 0; k--) {
                if (total[k] != 0) {
                    if (k < degree) {
                        text.append('+');
                    }
                    writeTerm(text, total[k], k);
                }
            }
        }

        private static void writeTerm(Text text, int coefficient, int exponent) {
            if (coefficient != 1 || exponent == 0) {
                text.append('0' + coefficient);
            }
            if (exponent > 0) {
                text.append('x');
            }
            if (exponent > 1) {
                text.append('^');
                text.append('0' + exponent);
            }
        }

        /** Puts the coefficients of a into an array; the answer is its degree, -1 for 0. */
        private int spread(long a, int[] coefficients) {
            int rest = firstPart(a);
            int degree = -1;
            for (int k = 0; k < COEFFICIENTS; k++) {
                coefficients[k] = rest % p;
                rest /= p;
                if (coefficients[k] != 0) {
                    degree = k;
                }
            }
            return degree;
        }

        /** The element with these coefficients, which need not be reduced, but are not negative. */
        private long gather(int[] coefficients) {
            long value = 0;
            for (int k = COEFFICIENTS - 1; k >= 0; k--) {
                value = value * p + coefficients[k] % p;
            }
            return element(value, 0);
        }

        private int inverseOf(int coefficient) {
            for (int candidate = 1; candidate < p; candidate++) {
                if (candidate * coefficient % p == 1) {
                    return candidate;
                }
            }
            return 1;
        }
    }

    /** A matrix with its original and its log; it is empty if it has no rows. */
    private static final class Matrix {
        private Ring ring;
        private int height;
        private int width;
        private final long[] entries;
        private final long[] original;
        /** A line that is computed here first, so that a step that fails changes nothing. */
        private final long[] line;
        private int count;
        private final int[] kinds;
        private final int[] targets;
        private final int[] sources;
        private final long[] factors;

        Matrix(Ring ring) {
            this.ring = ring;
            entries = new long[SIDE * SIDE];
            original = new long[SIDE * SIDE];
            line = new long[SIDE];
            kinds = new int[LOG_LIMIT];
            targets = new int[LOG_LIMIT];
            sources = new int[LOG_LIMIT];
            factors = new long[LOG_LIMIT];
        }

        boolean isEmpty() {
            return height == 0;
        }

        boolean isCell(int row, int column) {
            return row >= 0 && row < height && column >= 0 && column < width;
        }

        int lines(boolean columns) {
            return columns ? width : height;
        }

        boolean isLine(boolean columns, int index) {
            return index >= 0 && index < lines(columns);
        }

        boolean hasRingOf(Matrix other) {
            return ring.number == other.ring.number;
        }

        /** Whether the first rows are those of another matrix that has as many columns. */
        boolean hasRowsOf(Matrix other, int rows) {
            for (int row = 0; row < rows; row++) {
                for (int column = 0; column < width; column++) {
                    if (at(row, column) != other.at(row, column)) {
                        return false;
                    }
                }
            }
            return true;
        }

        long at(int row, int column) {
            return isCell(row, column) ? entries[row * SIDE + column] : Ring.ZERO;
        }

        void put(int row, int column, long element) {
            if (isCell(row, column)) {
                entries[row * SIDE + column] = element;
            }
        }

        private long atLine(boolean columns, int index, int k) {
            return columns ? at(k, index) : at(index, k);
        }

        private void putLine(boolean columns, int index, int k, long element) {
            if (columns) {
                put(k, index, element);
            } else {
                put(index, k, element);
            }
        }

        void beginLog() {
            System.arraycopy(entries, 0, original, 0, SIDE * SIDE);
            count = 0;
        }

        void becomeZero(Ring newRing, int rows, int columns) {
            ring = newRing;
            height = rows;
            width = columns;
            Arrays.fill(entries, Ring.ZERO);
            beginLog();
        }

        void becomeUnlogged(Matrix other) {
            takeShape(other);
            System.arraycopy(other.entries, 0, entries, 0, SIDE * SIDE);
            beginLog();
        }

        void become(Matrix other) {
            takeShape(other);
            System.arraycopy(other.entries, 0, entries, 0, SIDE * SIDE);
            System.arraycopy(other.original, 0, original, 0, SIDE * SIDE);
            count = other.count;
            System.arraycopy(other.kinds, 0, kinds, 0, LOG_LIMIT);
            System.arraycopy(other.targets, 0, targets, 0, LOG_LIMIT);
            System.arraycopy(other.sources, 0, sources, 0, LOG_LIMIT);
            System.arraycopy(other.factors, 0, factors, 0, LOG_LIMIT);
        }

        private void takeShape(Matrix other) {
            ring = other.ring;
            height = other.height;
            width = other.width;
        }

        /** Becomes another matrix as it was after a number of its steps. */
        void replay(Matrix other, int steps) {
            takeShape(other);
            System.arraycopy(other.original, 0, entries, 0, SIDE * SIDE);
            for (int k = 0; k < steps && k < other.count; k++) {
                apply(other.kinds[k], other.targets[k], other.sources[k], other.factors[k]);
            }
            beginLog();
        }

        /** Does a step and appends it to the log; if it fails, nothing changes. */
        void perform(int kind, int target, int source, long factor) {
            if (count >= LOG_LIMIT) {
                throw new ArithmeticException("the log is full");
            }
            apply(kind, target, source, factor);
            kinds[count] = kind;
            targets[count] = target;
            sources[count] = source;
            factors[count] = factor;
            count++;
        }

        int performStepsOf(Matrix other, boolean columns) {
            int done = 0;
            for (int k = 0; k < other.count; k++) {
                if ((other.kinds[k] >= COLUMN_KINDS) == columns) {
                    perform(other.kinds[k], other.targets[k], other.sources[k], other.factors[k]);
                    done++;
                }
            }
            return done;
        }

        void takeBack() {
            if (count <= 0) {
                return;
            }
            count--;
            int rowKind = kinds[count] % COLUMN_KINDS;
            long factor = factors[count];
            if (rowKind == ADD) {
                factor = ring.negated(factor);
            } else if (rowKind == SCALE) {
                factor = ring.inverse(factor);
            }
            apply(kinds[count], targets[count], sources[count], factor);
        }

        /** Makes columns that fit a Smith form into columns that fit the matrix that it was made of. */
        void followColumnStepsBack(Matrix form) {
            for (int k = form.count - 1; k >= 0; k--) {
                int rowKind = form.kinds[k] - COLUMN_KINDS;
                if (rowKind == ADD) {
                    apply(ADD, form.sources[k], form.targets[k], form.factors[k]);
                } else if (rowKind >= 0) {
                    apply(rowKind, form.targets[k], form.sources[k], form.factors[k]);
                }
            }
        }

        private void apply(int kind, int target, int source, long factor) {
            boolean columns = kind >= COLUMN_KINDS;
            int rowKind = columns ? kind - COLUMN_KINDS : kind;
            int length = Math.min(lines(!columns), SIDE);
            for (int k = 0; k < length; k++) {
                long own = atLine(columns, target, k);
                long other = atLine(columns, source, k);
                if (rowKind == ADD) {
                    line[k] = ring.plusProduct(own, factor, other);
                } else if (rowKind == SCALE) {
                    line[k] = ring.plusProduct(Ring.ZERO, factor, own);
                } else {
                    line[k] = other;
                }
            }
            for (int k = 0; k < length; k++) {
                if (rowKind == SWAP) {
                    putLine(columns, source, k, atLine(columns, target, k));
                }
                putLine(columns, target, k, line[k]);
            }
        }
    }

    /** The way to the Hermite form; the numbers in the comments are those of the document. */
    private static final class HermiteForm {

        private HermiteForm() {
        }

        /** Brings a matrix to its Hermite form and answers the rank. */
        static int reach(Matrix matrix) {
            int r = 0;
            for (int c = 0; c < matrix.width && r < matrix.height; c++) {
                // 1
                if (smallestFrom(matrix, r, c) == NONE) {
                    continue;
                }
                clearBelow(matrix, r, c);
                // 5
                long normalizer = matrix.ring.normalizer(matrix.at(r, c));
                if (normalizer != Ring.ONE) {
                    matrix.perform(SCALE, r, NONE, normalizer);
                }
                reduceAbove(matrix, r, c);
                // 7
                r++;
            }
            return r;
        }

        private static void clearBelow(Matrix matrix, int r, int c) {
            boolean clear = false;
            // Each turn but the last one does a step, and the log takes no more than its limit.
            for (int turn = 0; turn <= LOG_LIMIT && !clear; turn++) {
                // 2
                int smallest = smallestFrom(matrix, r, c);
                if (smallest != r) {
                    matrix.perform(SWAP, r, smallest, Ring.ZERO);
                }
                // 3
                long pivot = matrix.at(r, c);
                for (int i = r + 1; i < matrix.height; i++) {
                    long e = matrix.at(i, c);
                    if (e != Ring.ZERO) {
                        matrix.perform(ADD, i, r, matrix.ring.minusQuotient(e, pivot));
                    }
                }
                // 4
                clear = smallestFrom(matrix, r + 1, c) == NONE;
            }
        }

        private static void reduceAbove(Matrix matrix, int r, int c) {
            // 6
            long pivot = matrix.at(r, c);
            for (int i = 0; i < r; i++) {
                long factor = matrix.ring.minusQuotient(matrix.at(i, c), pivot);
                if (factor != Ring.ZERO) {
                    matrix.perform(ADD, i, r, factor);
                }
            }
        }

        /** The row from r on whose entry in column c has the smallest size above 0; NONE if all are 0. */
        private static int smallestFrom(Matrix matrix, int r, int c) {
            int found = NONE;
            long least = 0;
            for (int row = r; row < matrix.height; row++) {
                long size = matrix.ring.size(matrix.at(row, c));
                if (size != 0 && (found == NONE || size < least)) {
                    found = row;
                    least = size;
                }
            }
            return found;
        }
    }

    /** The way to the Smith form; the numbers in the comments are those of the document. */
    private static final class SmithForm {

        private SmithForm() {
        }

        /** Brings a matrix to its Smith form and answers the rank. */
        static int reach(Matrix matrix) {
            int t = 0;
            boolean choose = true;
            // Each turn does a step, which the log's limit bounds, or increases t, or is the last one.
            for (int turn = 0; turn <= LOG_LIMIT + SIDE; turn++) {
                if (choose) {
                    // 1, 2
                    if (!bringPivot(matrix, t)) {
                        return t;
                    }
                    clearBelow(matrix, t);
                }
                // 3
                clearBeside(matrix, t);
                // 4
                choose = true;
                if (!isCrossClear(matrix, t)) {
                    continue;
                }
                // 5
                int undivided = undividedRow(matrix, t);
                if (undivided != NONE) {
                    matrix.perform(ADD, t, undivided, Ring.ONE);
                    choose = false;
                    continue;
                }
                // 6, 7
                long normalizer = matrix.ring.normalizer(matrix.at(t, t));
                if (normalizer != Ring.ONE) {
                    matrix.perform(SCALE, t, NONE, normalizer);
                }
                t++;
            }
            return t;
        }

        /** Brings the smallest entry from t on to row t and column t; false if all of them are 0. */
        private static boolean bringPivot(Matrix matrix, int t) {
            int pivotRow = NONE;
            int pivotColumn = NONE;
            long least = 0;
            for (int row = t; row < matrix.height; row++) {
                for (int column = t; column < matrix.width; column++) {
                    long size = matrix.ring.size(matrix.at(row, column));
                    if (size != 0 && (pivotRow == NONE || size < least)) {
                        pivotRow = row;
                        pivotColumn = column;
                        least = size;
                    }
                }
            }
            if (pivotRow == NONE) {
                return false;
            }
            if (pivotRow != t) {
                matrix.perform(SWAP, t, pivotRow, Ring.ZERO);
            }
            if (pivotColumn != t) {
                matrix.perform(SWAP + COLUMN_KINDS, t, pivotColumn, Ring.ZERO);
            }
            return true;
        }

        private static void clearBelow(Matrix matrix, int t) {
            long pivot = matrix.at(t, t);
            for (int i = t + 1; i < matrix.height; i++) {
                long e = matrix.at(i, t);
                if (e != Ring.ZERO) {
                    matrix.perform(ADD, i, t, matrix.ring.minusQuotient(e, pivot));
                }
            }
        }

        private static void clearBeside(Matrix matrix, int t) {
            long pivot = matrix.at(t, t);
            for (int i = t + 1; i < matrix.width; i++) {
                long e = matrix.at(t, i);
                if (e != Ring.ZERO) {
                    // Behind 5 the quotient may be 0, and the document asks for this step all the same.
                    matrix.perform(ADD + COLUMN_KINDS, i, t, matrix.ring.minusQuotient(e, pivot));
                }
            }
        }

        private static boolean isCrossClear(Matrix matrix, int t) {
            for (int i = t + 1; i < SIDE; i++) {
                // Outside the matrix there is nothing but 0.
                if (matrix.at(i, t) != Ring.ZERO || matrix.at(t, i) != Ring.ZERO) {
                    return false;
                }
            }
            return true;
        }

        /** The first row behind t with an entry behind column t that the pivot does not divide, or NONE. */
        private static int undividedRow(Matrix matrix, int t) {
            long pivot = matrix.at(t, t);
            for (int row = t + 1; row < matrix.height; row++) {
                for (int column = t + 1; column < matrix.width; column++) {
                    if (matrix.ring.remainder(matrix.at(row, column), pivot) != Ring.ZERO) {
                        return row;
                    }
                }
            }
            return NONE;
        }
    }

    /** A text of bytes with a limit. */
    private static final class Text {
        private final int[] codes;
        private int length;

        Text(int limit) {
            codes = new int[Math.max(limit, 0)];
        }

        void append(int code) {
            if (length >= 0 && length < codes.length) {
                codes[length] = code;
                length++;
            }
        }

        void appendNumber(int value) {
            long rest = value;
            if (rest < 0) {
                append('-');
                rest = -rest;
            }
            boolean begun = false;
            long unit = 1000000000L;
            for (int place = 9; place >= 0 && unit > 0; place--) {
                int digit = (int) (rest / unit % 10);
                begun = begun || digit != 0 || place == 0;
                if (begun) {
                    append('0' + digit);
                }
                unit /= 10;
            }
        }

        /** The byte at an index, or NONE. */
        int codeAt(int index) {
            return index >= 0 && index < length && index < codes.length ? codes[index] : NONE;
        }
    }

    /** Reads a matrix from a text, up to the first fault. */
    private static final class MatrixReader {
        private final Text text;
        private final long[] cells;
        private int position;
        private int fault;
        private int width;
        private boolean closed;

        MatrixReader(Text text) {
            this.text = text;
            cells = new long[SIDE * SIDE];
        }

        /** Puts the matrix of the text into a matrix and answers NONE, or answers the fault of the text. */
        int readMatrix(Ring ring, Matrix matrix) {
            position = 0;
            fault = NONE;
            width = 0;
            closed = false;
            expect('[');
            int height = 0;
            for (int row = 0; row < SIDE && !closed && !hasFault(); row++) {
                readRow(ring, row);
                height = row + 1;
            }
            if (!hasFault() && position < text.length) {
                failAt(position);
            }
            if (!hasFault()) {
                matrix.becomeZero(ring, height, width);
                for (int k = 0; k < SIDE * SIDE; k++) {
                    matrix.put(k / SIDE, k % SIDE, cells[k]);
                }
                matrix.beginLog();
            }
            return fault;
        }

        private void readRow(Ring ring, int row) {
            int most = row == 0 ? SIDE : width;
            int elements = 0;
            boolean more = true;
            for (int column = 0; column < most && column < SIDE && more; column++) {
                cells[row * SIDE + column] = ring.readFrom(this);
                if (hasFault()) {
                    return;
                }
                elements++;
                more = elements < most && take(',');
            }
            if (row == 0) {
                width = elements;
            }
            if (elements < width) {
                failAt(position);
            } else if (row == SIDE - 1 || !take(';')) {
                expect(']');
                closed = true;
            }
        }

        boolean hasFault() {
            return fault != NONE;
        }

        void failAt(int index) {
            if (!hasFault()) {
                fault = index;
            }
        }

        /** Goes over a byte if it is the next one. */
        boolean take(int code) {
            if (text.codeAt(position) != code) {
                return false;
            }
            position++;
            return true;
        }

        void expect(int code) {
            if (!take(code)) {
                failAt(position);
            }
        }

        boolean isAtDigit() {
            int code = text.codeAt(position);
            return code >= '0' && code <= '9';
        }

        int takeDigit(int most) {
            int digit = text.codeAt(position) - '0';
            if (digit < 0 || digit > most) {
                failAt(position);
                return 0;
            }
            position++;
            return digit;
        }

        /** Goes over a number; it has a fault at its first digit if it has too many or is too large. */
        long takeNumber(int digits, int limit) {
            int start = position;
            long value = 0;
            for (int k = 0; k <= digits && isAtDigit(); k++) {
                value = value * 10 + takeDigit(9);
            }
            if (position == start || position - start > digits || value > limit) {
                failAt(start);
            }
            return value;
        }
    }
}
