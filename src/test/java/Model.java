import java.math.BigInteger;
import java.util.ArrayList;
import java.util.Arrays;
import java.util.HashMap;
import java.util.List;
import java.util.Map;
import java.util.regex.Matcher;
import java.util.regex.Pattern;

/**
 * A second RingMatrices, for comparison: slow and plain, and made in other ways wherever there are
 * others. Elements are arrays of big integers (coefficients, or the two parts), a log keeps the
 * matrix after each step, and texts are judged by regular expressions.
 */
public final class Model {
    private static final BigInteger ZERO = BigInteger.ZERO;
    private static final BigInteger ONE = BigInteger.ONE;
    private static final BigInteger TWO = BigInteger.TWO;

    private static final Map<String, Pattern> PATTERNS = new HashMap<>();

    /** A matrix: entry [row][column] is an element, a list of coefficients without leading zeros. */
    private static final class Slot {
        int ring;
        int rows;
        int columns;
        /** The matrix after 0, 1, 2, ... steps. */
        List<BigInteger[][][]> history = new ArrayList<>();
        List<Object[]> log = new ArrayList<>();

        Slot(int ring, BigInteger[][][] matrix) {
            this.ring = ring;
            rows = matrix.length;
            columns = matrix[0].length;
            history.add(matrix);
        }

        BigInteger[][][] now() {
            return history.get(history.size() - 1);
        }

        Slot fresh() {
            return new Slot(ring, now());
        }

        Slot copy() {
            Slot copy = new Slot(ring, history.get(0));
            copy.history = new ArrayList<>(history);
            copy.log = new ArrayList<>(log);
            return copy;
        }

        boolean has(int row, int column) {
            return row >= 0 && row < rows && column >= 0 && column < columns;
        }

        BigInteger[] at(int row, int column) {
            return now()[row][column];
        }

        void step(int kind, int i, int j, BigInteger[] f) {
            fail(log.size() >= 200);
            boolean byColumns = kind >= 3;
            BigInteger[][][] m = byColumns ? transposed(now()) : duplicate(now());
            int what = kind % 3;
            if (what == 0) {
                BigInteger[][] line = m[i];
                m[i] = m[j];
                m[j] = line;
            }
            for (int k = 0; k < m[i].length && what != 0; k++) {
                m[i][k] = what == 1 ? inRange(ring, plus(ring, m[i][k], times(ring, f, m[j][k]))) : inRange(ring, times(ring, f, m[i][k]));
            }
            history.add(byColumns ? transposed(m) : m);
            log.add(new Object[] {kind, i, j, f});
        }
    }

    private final Slot[] slots = new Slot[3];
    private String text = "";
    private String written = "";

    // ---- elements

    private static void fail(boolean failing) {
        if (failing) {
            throw new ArithmeticException();
        }
    }

    private static BigInteger[] trimmed(BigInteger... parts) {
        int length = parts.length;
        while (length > 0 && parts[length - 1].signum() == 0) {
            length--;
        }
        return Arrays.copyOf(parts, length);
    }

    private static BigInteger part(BigInteger[] e, int k) {
        return k < e.length ? e[k] : ZERO;
    }

    private static boolean isZero(BigInteger[] e) {
        return e.length == 0;
    }

    private static BigInteger[] plus(int ring, BigInteger[] a, BigInteger[] b) {
        BigInteger[] sum = new BigInteger[Math.max(a.length, b.length)];
        for (int k = 0; k < sum.length; k++) {
            sum[k] = part(a, k).add(part(b, k));
        }
        return reduced(ring, sum);
    }

    private static BigInteger[] reduced(int ring, BigInteger[] e) {
        for (int k = 0; k < e.length && ring > 1; k++) {
            e[k] = e[k].mod(BigInteger.valueOf(ring));
        }
        return trimmed(e);
    }

    private static BigInteger[] times(int ring, BigInteger[] a, BigInteger[] b) {
        BigInteger[] product = new BigInteger[a.length + b.length + 3];
        Arrays.fill(product, ZERO);
        for (int i = 0; i < a.length; i++) {
            for (int j = 0; j < b.length; j++) {
                product[i + j] = product[i + j].add(a[i].multiply(b[j]));
            }
        }
        if (ring == 1) {
            // i * i is -1.
            return trimmed(product[0].subtract(product[2]), product[1]);
        }
        return reduced(ring, product);
    }

    private static BigInteger[] whole(int ring, long value) {
        return reduced(ring, new BigInteger[] {BigInteger.valueOf(value)});
    }

    private static BigInteger[] minus(int ring, BigInteger[] a) {
        return times(ring, whole(ring, -1), a);
    }

    private static boolean ranged(int ring, BigInteger[] e) {
        if (ring > 1) {
            return e.length <= 8;
        }
        BigInteger limit = BigInteger.valueOf(ring == 0 ? 1000000000 : 30000);
        return part(e, 0).abs().compareTo(limit) <= 0 && part(e, 1).abs().compareTo(limit) <= 0;
    }

    private static BigInteger[] inRange(int ring, BigInteger[] e) {
        fail(!ranged(ring, e));
        return e;
    }

    private static BigInteger size(int ring, BigInteger[] e) {
        if (ring > 1) {
            return BigInteger.valueOf(e.length);
        }
        return ring == 0 ? part(e, 0).abs() : part(e, 0).pow(2).add(part(e, 1).pow(2));
    }

    private static BigInteger floorDiv(BigInteger a, BigInteger b) {
        BigInteger rest = a.mod(b);
        return a.subtract(rest).divide(b);
    }

    private static BigInteger[] quotient(int ring, BigInteger[] a, BigInteger[] b) {
        if (ring == 0) {
            BigInteger rest = part(a, 0).mod(b[0].abs());
            return trimmed(part(a, 0).subtract(rest).divide(b[0]));
        }
        if (ring == 1) {
            BigInteger[] product = times(1, a, trimmed(part(b, 0), part(b, 1).negate()));
            BigInteger n = size(1, b);
            BigInteger x = floorDiv(part(product, 0).multiply(TWO).add(n), n.multiply(TWO));
            BigInteger y = floorDiv(part(product, 1).multiply(TWO).add(n), n.multiply(TWO));
            return trimmed(x, y);
        }
        BigInteger[] q = new BigInteger[0];
        BigInteger[] rest = a;
        BigInteger lead = b[b.length - 1].modInverse(BigInteger.valueOf(ring));
        while (rest.length >= b.length) {
            BigInteger[] term = new BigInteger[rest.length - b.length + 1];
            Arrays.fill(term, ZERO);
            term[term.length - 1] = rest[rest.length - 1].multiply(lead);
            term = reduced(ring, term);
            q = plus(ring, q, term);
            rest = plus(ring, rest, minus(ring, times(ring, term, b)));
        }
        return q;
    }

    private static BigInteger[] remainder(int ring, BigInteger[] a, BigInteger[] b) {
        return plus(ring, a, minus(ring, times(ring, quotient(ring, a, b), b)));
    }

    private static List<BigInteger[]> units(int ring) {
        List<BigInteger[]> units = new ArrayList<>();
        for (int k = 1; k < ring && ring > 1; k++) {
            units.add(whole(ring, k));
        }
        if (ring <= 1) {
            units.add(whole(ring, 1));
            units.add(whole(ring, -1));
        }
        if (ring == 1) {
            units.add(trimmed(ZERO, ONE));
            units.add(trimmed(ZERO, ONE.negate()));
        }
        return units;
    }

    private static boolean normal(int ring, BigInteger[] e) {
        if (isZero(e)) {
            return true;
        }
        if (ring > 1) {
            return e[e.length - 1].equals(ONE);
        }
        return part(e, 0).signum() > 0 && part(e, 1).signum() >= 0;
    }

    private static BigInteger[] normalizer(int ring, BigInteger[] e) {
        for (BigInteger[] unit : units(ring)) {
            if (normal(ring, times(ring, unit, e))) {
                return unit;
            }
        }
        throw new IllegalStateException("no normalizer");
    }

    private static BigInteger[] inverse(int ring, BigInteger[] unit) {
        for (BigInteger[] other : units(ring)) {
            if (Arrays.equals(times(ring, unit, other), whole(ring, 1))) {
                return other;
            }
        }
        throw new IllegalStateException("no inverse");
    }

    /** The element with these parts, or null. */
    private static BigInteger[] element(int ring, long first, long second) {
        if (ring > 1) {
            if (first < 0 || second != 0) {
                return null;
            }
            List<BigInteger> digits = new ArrayList<>();
            for (long rest = first; rest > 0; rest /= ring) {
                digits.add(BigInteger.valueOf(rest % ring));
            }
            return digits.size() > 8 ? null : digits.toArray(new BigInteger[0]);
        }
        BigInteger[] e = trimmed(BigInteger.valueOf(first), BigInteger.valueOf(second));
        return ranged(ring, e) && (ring == 1 || second == 0) ? e : null;
    }

    private static int partOf(int ring, BigInteger[] e, int part) {
        if (ring > 1) {
            BigInteger value = ZERO;
            for (int k = e.length - 1; k >= 0; k--) {
                value = value.multiply(BigInteger.valueOf(ring)).add(e[k]);
            }
            return part == 0 ? value.intValueExact() : 0;
        }
        return part(e, part).intValueExact();
    }

    // ---- matrices

    private static BigInteger[][][] duplicate(BigInteger[][][] m) {
        BigInteger[][][] copy = new BigInteger[m.length][][];
        for (int row = 0; row < m.length; row++) {
            copy[row] = m[row].clone();
        }
        return copy;
    }

    private static BigInteger[][][] transposed(BigInteger[][][] m) {
        BigInteger[][][] turned = new BigInteger[m[0].length][m.length][];
        for (int row = 0; row < m.length; row++) {
            for (int column = 0; column < m[0].length; column++) {
                turned[column][row] = m[row][column];
            }
        }
        return turned;
    }

    private static BigInteger[][][] zeros(int rows, int columns) {
        BigInteger[][][] m = new BigInteger[rows][columns][];
        for (BigInteger[][] row : m) {
            Arrays.fill(row, new BigInteger[0]);
        }
        return m;
    }

    private static int hermiteOf(Slot s) {
        int r = 0;
        for (int c = 0; c < s.columns && r < s.rows; c++) {
            boolean pivoted = false;
            while (true) {
                int i = -1;
                int left = 0;
                for (int row = r; row < s.rows; row++) {
                    if (!isZero(s.at(row, c))) {
                        left++;
                        if (i < 0 || size(s.ring, s.at(row, c)).compareTo(size(s.ring, s.at(i, c))) < 0) {
                            i = row;
                        }
                    }
                }
                if (left == 0 || pivoted && left == 1) {
                    break;
                }
                pivoted = true;
                if (i != r) {
                    s.step(0, r, i, new BigInteger[0]);
                }
                for (int row = r + 1; row < s.rows; row++) {
                    if (!isZero(s.at(row, c))) {
                        s.step(1, row, r, minus(s.ring, quotient(s.ring, s.at(row, c), s.at(r, c))));
                    }
                }
            }
            if (!pivoted) {
                continue;
            }
            BigInteger[] f = normalizer(s.ring, s.at(r, c));
            if (!Arrays.equals(f, whole(s.ring, 1))) {
                s.step(2, r, -1, f);
            }
            for (int row = 0; row < r; row++) {
                BigInteger[] q = quotient(s.ring, s.at(row, c), s.at(r, c));
                if (!isZero(q)) {
                    s.step(1, row, r, minus(s.ring, q));
                }
            }
            r++;
        }
        return r;
    }

    private static int smithOf(Slot s) {
        int t = 0;
        int place = 1;
        while (true) {
            if (place == 1) {
                int row = -1;
                int column = -1;
                for (int i = t; i < s.rows; i++) {
                    for (int j = t; j < s.columns; j++) {
                        if (!isZero(s.at(i, j)) && (row < 0 || size(s.ring, s.at(i, j)).compareTo(size(s.ring, s.at(row, column))) < 0)) {
                            row = i;
                            column = j;
                        }
                    }
                }
                if (row < 0) {
                    return t;
                }
                if (row != t) {
                    s.step(0, t, row, new BigInteger[0]);
                }
                if (column != t) {
                    s.step(3, t, column, new BigInteger[0]);
                }
                for (int i = t + 1; i < s.rows; i++) {
                    if (!isZero(s.at(i, t))) {
                        s.step(1, i, t, minus(s.ring, quotient(s.ring, s.at(i, t), s.at(t, t))));
                    }
                }
            }
            for (int i = t + 1; i < s.columns; i++) {
                if (!isZero(s.at(t, i))) {
                    s.step(4, i, t, minus(s.ring, quotient(s.ring, s.at(t, i), s.at(t, t))));
                }
            }
            place = 1;
            boolean again = false;
            for (int i = t + 1; i < s.rows; i++) {
                again |= !isZero(s.at(i, t));
            }
            for (int i = t + 1; i < s.columns; i++) {
                again |= !isZero(s.at(t, i));
            }
            if (again) {
                continue;
            }
            int j = -1;
            for (int row = s.rows - 1; row > t; row--) {
                for (int column = t + 1; column < s.columns; column++) {
                    if (!isZero(remainder(s.ring, s.at(row, column), s.at(t, t)))) {
                        j = row;
                    }
                }
            }
            if (j >= 0) {
                s.step(1, t, j, whole(s.ring, 1));
                place = 3;
                continue;
            }
            BigInteger[] f = normalizer(s.ring, s.at(t, t));
            if (!Arrays.equals(f, whole(s.ring, 1))) {
                s.step(2, t, -1, f);
            }
            t++;
        }
    }

    /** x from y, as solve() tells it. */
    private static BigInteger[][] back(Slot smith, BigInteger[][] y) {
        BigInteger[][] x = y.clone();
        for (int k = smith.log.size() - 1; k >= 0; k--) {
            Object[] step = smith.log.get(k);
            int kind = (Integer) step[0];
            int i = (Integer) step[1];
            int j = (Integer) step[2];
            BigInteger[] f = (BigInteger[]) step[3];
            if (kind == 3) {
                BigInteger[] held = x[i];
                x[i] = x[j];
                x[j] = held;
            } else if (kind == 4) {
                x[j] = inRange(smith.ring, plus(smith.ring, x[j], times(smith.ring, f, x[i])));
            } else if (kind == 5) {
                x[i] = inRange(smith.ring, times(smith.ring, f, x[i]));
            }
        }
        return x;
    }

    // ---- the face

    private static void slotNumber(int... numbers) {
        for (int number : numbers) {
            if (number < 0 || number > 2) {
                throw new IndexOutOfBoundsException();
            }
        }
    }

    private static void state(boolean holds) {
        if (!holds) {
            throw new IllegalStateException();
        }
    }

    private static void argument(boolean holds) {
        if (!holds) {
            throw new IllegalArgumentException();
        }
    }

    private static boolean isRing(int ring) {
        return ring == 0 || ring == 1 || ring == 2 || ring == 3 || ring == 5 || ring == 7;
    }

    private static boolean isPart(int part) {
        return part == 0 || part == 1;
    }

    private Slot filled(int slot) {
        slotNumber(slot);
        state(slots[slot] != null);
        return slots[slot];
    }

    public int create(int slot, int ring, int rows, int columns) {
        slotNumber(slot);
        argument(isRing(ring) && rows > 0 && rows < 5 && columns > 0 && columns < 5);
        int answer = slots[slot] == null ? 1 : 0;
        slots[slot] = new Slot(ring, zeros(rows, columns));
        return answer;
    }

    public int set(int slot, int row, int column, int first, int second) {
        Slot s = filled(slot);
        argument(s.has(row, column) && element(s.ring, first, second) != null);
        int previous = partOf(s.ring, s.at(row, column), 0);
        BigInteger[][][] m = duplicate(s.now());
        m[row][column] = element(s.ring, first, second);
        slots[slot] = new Slot(s.ring, m);
        return previous;
    }

    public int copy(int from, int to) {
        slotNumber(from, to);
        slots[to] = filled(from).copy();
        return slots[to].log.size();
    }

    public int multiply(int left, int right, int to) {
        slotNumber(left, right, to);
        state(slots[left] != null && slots[right] != null && slots[left].ring == slots[right].ring && slots[left].columns == slots[right].rows);
        Slot a = slots[left];
        Slot b = slots[right];
        BigInteger[][][] m = zeros(a.rows, b.columns);
        for (int i = 0; i < a.rows; i++) {
            for (int j = 0; j < b.columns; j++) {
                for (int k = 0; k < a.columns; k++) {
                    BigInteger[] product = inRange(a.ring, times(a.ring, a.at(i, k), b.at(k, j)));
                    m[i][j] = inRange(a.ring, plus(a.ring, m[i][j], product));
                }
            }
        }
        slots[to] = new Slot(a.ring, m);
        return slots[to].columns;
    }

    public int ring(int slot) {
        slotNumber(slot);
        return slots[slot] == null ? -1 : slots[slot].ring;
    }

    public int rows(int slot) {
        slotNumber(slot);
        return slots[slot] == null ? 0 : slots[slot].rows;
    }

    public int columns(int slot) {
        slotNumber(slot);
        return slots[slot] == null ? 0 : slots[slot].columns;
    }

    public int entry(int slot, int row, int column, int part) {
        Slot s = filled(slot);
        argument(s.has(row, column) && isPart(part));
        return partOf(s.ring, s.at(row, column), part);
    }

    private static boolean isLine(Slot s, boolean columns, int i) {
        return i >= 0 && i < (columns ? s.columns : s.rows);
    }

    public int swap(int slot, boolean columns, int i, int j) {
        Slot s = filled(slot);
        argument(isLine(s, columns, i) && isLine(s, columns, j) && i != j);
        s.step(columns ? 3 : 0, i, j, new BigInteger[0]);
        return s.log.size();
    }

    public int add(int slot, boolean columns, int i, int j, int first, int second) {
        Slot s = filled(slot);
        argument(isLine(s, columns, i) && isLine(s, columns, j) && i != j && element(s.ring, first, second) != null);
        s.step(columns ? 4 : 1, i, j, element(s.ring, first, second));
        return s.log.size();
    }

    public int scale(int slot, boolean columns, int i, int first, int second) {
        Slot s = filled(slot);
        BigInteger[] f = element(s.ring, first, second);
        boolean unit = false;
        for (BigInteger[] candidate : units(s.ring)) {
            unit |= f != null && Arrays.equals(candidate, f);
        }
        argument(isLine(s, columns, i) && unit);
        s.step(columns ? 5 : 2, i, -1, f);
        return s.log.size();
    }

    public int back(int slot) {
        Slot s = filled(slot);
        state(!s.log.isEmpty());
        s.log.remove(s.log.size() - 1);
        s.history.remove(s.history.size() - 1);
        return s.log.size();
    }

    public int transfer(int from, int to, boolean columns) {
        slotNumber(from, to);
        Slot a = slots[from];
        Slot b = slots[to];
        state(a != null && b != null && from != to && a.ring == b.ring && (columns ? a.columns == b.columns : a.rows == b.rows));
        Slot result = b.copy();
        int done = 0;
        for (Object[] step : a.log) {
            if ((Integer) step[0] > 2 == columns) {
                result.step((Integer) step[0], (Integer) step[1], (Integer) step[2], (BigInteger[]) step[3]);
                done++;
            }
        }
        slots[to] = result;
        return done;
    }

    public int hermite(int slot) {
        Slot s = filled(slot).copy();
        int rank = hermiteOf(s);
        slots[slot] = s;
        return rank;
    }

    public int smith(int slot) {
        Slot s = filled(slot).copy();
        int rank = smithOf(s);
        slots[slot] = s;
        return rank;
    }

    public int steps(int slot) {
        slotNumber(slot);
        return slots[slot] == null ? 0 : slots[slot].log.size();
    }

    public int step(int slot, int step, int what) {
        if (step < 0 || step >= steps(slot)) {
            throw new IndexOutOfBoundsException();
        }
        argument(what >= 0 && what < 5);
        Object[] s = slots[slot].log.get(step);
        return what < 3 ? (Integer) s[what] : partOf(slots[slot].ring, (BigInteger[]) s[3], what - 3);
    }

    public int entryAfter(int slot, int steps, int row, int column, int part) {
        Slot s = filled(slot);
        argument(steps >= 0 && steps <= s.log.size() && s.has(row, column) && isPart(part));
        return partOf(s.ring, s.history.get(steps)[row][column], part);
    }

    public int solve(int matrix, int right, int to) {
        slotNumber(matrix, right, to);
        Slot a = slots[matrix];
        Slot b = slots[right];
        state(a != null && b != null && a.ring == b.ring && b.columns == 1 && a.rows == b.rows);
        Slot form = a.fresh();
        int rank = smithOf(form);
        Slot c = b.fresh();
        for (Object[] step : form.log) {
            if ((Integer) step[0] < 3) {
                c.step((Integer) step[0], (Integer) step[1], (Integer) step[2], (BigInteger[]) step[3]);
            }
        }
        BigInteger[][] y = new BigInteger[a.columns][];
        Arrays.fill(y, new BigInteger[0]);
        for (int k = 0; k < a.rows; k++) {
            if (k < rank && isZero(remainder(a.ring, c.at(k, 0), form.at(k, k)))) {
                y[k] = quotient(a.ring, c.at(k, 0), form.at(k, k));
            } else if (k < rank || !isZero(c.at(k, 0))) {
                return 0;
            }
        }
        slots[to] = new Slot(a.ring, transposed(new BigInteger[][][] {back(form, y)}));
        return 1;
    }

    public int kernel(int matrix, int to) {
        slotNumber(matrix, to);
        Slot form = filled(matrix).fresh();
        int rank = smithOf(form);
        int found = form.columns - rank;
        if (found == 0) {
            return 0;
        }
        BigInteger[][][] vectors = new BigInteger[found][][];
        for (int k = 0; k < found; k++) {
            BigInteger[][] y = new BigInteger[form.columns][];
            Arrays.fill(y, new BigInteger[0]);
            y[rank + k] = whole(form.ring, 1);
            vectors[k] = back(form, y);
        }
        slots[to] = new Slot(form.ring, transposed(vectors));
        return found;
    }

    public int invariant(int slot, int index, int part) {
        Slot form = filled(slot).fresh();
        argument(index >= 0 && index < form.rows && index < form.columns && isPart(part));
        smithOf(form);
        return partOf(form.ring, form.at(index, index), part);
    }

    public long order(int slot) {
        Slot form = filled(slot).fresh();
        if (smithOf(form) < form.rows) {
            return 0;
        }
        BigInteger product = ONE;
        for (int k = 0; k < form.rows; k++) {
            BigInteger size = size(form.ring, form.at(k, k));
            product = product.multiply(form.ring < 2 ? size : BigInteger.valueOf(form.ring).pow(size.intValue() - 1));
        }
        fail(product.compareTo(BigInteger.TEN.pow(18)) > 0);
        return product.longValueExact();
    }

    public int determinant(int slot, int part) {
        Slot form = filled(slot).fresh();
        state(form.rows == form.columns);
        argument(isPart(part));
        if (hermiteOf(form) < form.rows) {
            return 0;
        }
        BigInteger[] product = whole(form.ring, 1);
        for (int k = 0; k < form.rows; k++) {
            product = inRange(form.ring, times(form.ring, product, form.at(k, k)));
        }
        for (Object[] step : form.log) {
            if ((Integer) step[0] == 0) {
                product = inRange(form.ring, minus(form.ring, product));
            } else if ((Integer) step[0] == 2) {
                product = inRange(form.ring, times(form.ring, product, inverse(form.ring, (BigInteger[]) step[3])));
            }
        }
        return partOf(form.ring, product, part);
    }

    public boolean sameSpan(int one, int other) {
        slotNumber(one, other);
        Slot a = filled(one).fresh();
        Slot b = filled(other).fresh();
        if (a.ring != b.ring || a.columns != b.columns) {
            return false;
        }
        int rank = hermiteOf(a);
        return hermiteOf(b) == rank
            && Arrays.deepEquals(Arrays.copyOf(a.now(), rank), Arrays.copyOf(b.now(), rank));
    }

    public boolean areEquivalent(int one, int other) {
        slotNumber(one, other);
        Slot a = filled(one).fresh();
        Slot b = filled(other).fresh();
        if (a.ring != b.ring || a.columns != b.columns || a.rows != b.rows) {
            return false;
        }
        smithOf(a);
        smithOf(b);
        return Arrays.deepEquals(a.now(), b.now());
    }

    public int quotient(int ring, int a, int b, int part) {
        argument(isRing(ring) && element(ring, a, 0) != null && element(ring, b, 0) != null && isPart(part));
        fail(b == 0);
        return partOf(ring, quotient(ring, element(ring, a, 0), element(ring, b, 0)), part);
    }

    public int gcd(int ring, int aFirst, int aSecond, int bFirst, int bSecond, int part) {
        argument(isRing(ring));
        BigInteger[] a = element(ring, aFirst, aSecond);
        BigInteger[] b = element(ring, bFirst, bSecond);
        argument(a != null && b != null && isPart(part));
        while (!isZero(b)) {
            BigInteger[] rest = remainder(ring, a, b);
            a = b;
            b = rest;
        }
        return isZero(a) ? 0 : partOf(ring, times(ring, a, normalizer(ring, a)), part);
    }

    // ---- texts

    public int type(int code) {
        argument(code >= 0 && code <= 255);
        state(text.length() < 120);
        text += (char) code;
        return text.length();
    }

    public int clearText() {
        int length = text.length();
        text = "";
        return length;
    }

    private static String grammar(int ring) {
        if (ring == 0) {
            return "-?[0-9]{1,10}";
        }
        if (ring == 1) {
            return "-?(?:[0-9]{1,5}i?|i|[0-9]{1,5}[+-](?:[0-9]{1,5})?i)";
        }
        String power = "x(?:\\^[0-7])?";
        String term = "(?:" + power + "|[0-" + (ring - 1) + "](?:" + power + ")?)";
        return term + "(?:\\+" + term + ")*";
    }

    /** Whether a text can be continued, or is, a matrix of the grammar, without the details. */
    private static boolean[] viable(int ring, String text) {
        boolean can = false;
        boolean is = false;
        for (int more = 0; more < 4; more++) {
            String row = grammar(ring) + "(?:," + grammar(ring) + "){" + more + "}";
            Matcher matcher = PATTERNS.computeIfAbsent("\\[" + row + "(?:;" + row + "){0,3}\\]", Pattern::compile).matcher(text);
            boolean matches = matcher.matches();
            is |= matches;
            can |= matches || matcher.hitEnd();
        }
        return new boolean[] {can, is};
    }

    public int fault(int ring) {
        argument(isRing(ring));
        int end = 0;
        while (end < text.length() && viable(ring, text.substring(0, end + 1))[0]) {
            end++;
        }
        int fault = end == text.length() && viable(ring, text)[1] ? Integer.MAX_VALUE : end;
        if (ring < 2) {
            Matcher numbers = Pattern.compile("[0-9]+").matcher(text.substring(0, end));
            while (numbers.find()) {
                boolean tooLong = numbers.end() == end && end < text.length() && Character.isDigit(text.charAt(end));
                boolean tooLarge = Long.parseLong(numbers.group()) > (ring == 0 ? 1000000000L : 30000L);
                if (tooLong || tooLarge) {
                    fault = Math.min(fault, numbers.start());
                }
            }
        } else {
            Matcher polynomials = Pattern.compile("[^\\[\\],;]+").matcher(text.substring(0, end));
            while (polynomials.find()) {
                fault = Math.min(fault, exponentFault(polynomials.group(), polynomials.start()));
            }
        }
        return fault == Integer.MAX_VALUE ? -1 : fault;
    }

    private static int exponentFault(String polynomial, int start) {
        int last = 8;
        Matcher terms = Pattern.compile("[^+]+").matcher(polynomial);
        while (terms.find()) {
            if (terms.group().endsWith("^")) {
                continue;
            }
            if (exponent(terms.group()) >= last) {
                return start + terms.start();
            }
            last = exponent(terms.group());
        }
        return Integer.MAX_VALUE;
    }

    private static int exponent(String term) {
        if (term.contains("^")) {
            return term.charAt(term.length() - 1) - '0';
        }
        return term.endsWith("x") ? 1 : 0;
    }

    public int parse(int slot, int ring) {
        slotNumber(slot);
        argument(isRing(ring));
        state(fault(ring) == -1);
        String[] rows = text.substring(1, text.length() - 1).split(";");
        BigInteger[][][] m = zeros(rows.length, rows[0].split(",").length);
        for (int row = 0; row < m.length; row++) {
            for (int column = 0; column < m[0].length; column++) {
                m[row][column] = read(ring, rows[row].split(",")[column]);
            }
        }
        slots[slot] = new Slot(ring, m);
        text = "";
        return m.length;
    }

    private static BigInteger[] read(int ring, String word) {
        if (ring == 0) {
            return trimmed(new BigInteger(word));
        }
        if (ring == 1) {
            Matcher parts = Pattern.compile("(-?[0-9]+(?!i|[0-9]))?(?:([+-]?[0-9]*)i)?").matcher(word);
            if (!parts.matches()) {
                throw new IllegalStateException(word);
            }
            BigInteger first = parts.group(1) == null ? ZERO : new BigInteger(parts.group(1));
            String second = parts.group(2) == null ? "0" : parts.group(2);
            return trimmed(first, new BigInteger(second.matches("[+-]?") ? second + "1" : second));
        }
        BigInteger[] e = new BigInteger[8];
        Arrays.fill(e, ZERO);
        for (String term : word.split("\\+")) {
            char c = term.charAt(0);
            e[exponent(term)] = BigInteger.valueOf(c == 'x' ? 1 : c - '0');
        }
        return trimmed(e);
    }

    public int write(int slot) {
        Slot s = filled(slot);
        List<String> rows = new ArrayList<>();
        for (int row = 0; row < s.rows; row++) {
            List<String> words = new ArrayList<>();
            for (int column = 0; column < s.columns; column++) {
                words.add(word(s.ring, s.at(row, column)));
            }
            rows.add(String.join(",", words));
        }
        written = "[" + String.join(";", rows) + "]";
        return written.length();
    }

    private static String word(int ring, BigInteger[] e) {
        if (isZero(e)) {
            return "0";
        }
        if (ring < 2) {
            String second = part(e, 1) + "i";
            String all = part(e, 0) + (part(e, 1).signum() > 0 ? "+" : "") + (part(e, 1).signum() == 0 ? "" : second);
            return all.replaceAll("(^|[+-])1i", "$1i").replaceAll("^0\\+|^0(?=-)", "");
        }
        List<String> terms = new ArrayList<>();
        for (int k = e.length - 1; k >= 0; k--) {
            if (e[k].signum() != 0) {
                String power = k == 0 ? "" : k == 1 ? "x" : "x^" + k;
                terms.add((e[k].equals(ONE) && k > 0 ? "" : e[k].toString()) + power);
            }
        }
        return String.join("+", terms);
    }

    public int written(int index) {
        if (index < 0 || index >= written.length()) {
            throw new IndexOutOfBoundsException();
        }
        return written.charAt(index);
    }
}
