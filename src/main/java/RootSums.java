/**
 * Exact numbers (a + b V2 + c V3 + d V6) / m in six registers, where V2, V3 and V6 are the
 * positive square roots of 2, 3 and 6.
 */
public final class RootSums {
    public static final int BAD_ARG = -1000000;
    public static final int OVER = -2000000;
    public static final int NONE = -3000000;

    private static final int REGISTERS = 6;
    private static final int WIDTH = 5;
    private static final int CELLS = 30;
    /** The place of m, behind a, b, c and d. */
    private static final int M = 4;
    private static final int LIMIT = 30;
    private static final int CONJUGATES = 4;
    private static final int GREATEST_MULTIPLE = 5;
    private static final long NORM_LIMIT = 900000;
    /** 5 * 30 * (1 + V2 + V3 + V6) is below 1024 = 2 to the 10th, so every floor is within. */
    private static final int FLOOR_BITS = 10;
    /** Euclid's steps on two longs stay below 100. */
    private static final int GCD_STEPS = 1000;

    /** Register r has its a, b, c, d and m from cell r * WIDTH on, without common divisor. */
    private final int[] cells = new int[CELLS];
    // Working space of one call: longs, since what has not yet been reduced can pass an int.
    private final long[] first = new long[WIDTH];
    private final long[] second = new long[WIDTH];
    private final long[] result = new long[WIDTH];

    public RootSums() {
        for (int r = 0; r < REGISTERS; r++) {
            cells[r * WIDTH + M] = 1;
        }
    }

    public int put(int r, int k, int x) {
        if (!isRegister(r) || k < 0 || k >= M || !isWithinLimit(x)) {
            return BAD_ARG;
        }
        load(result, r);
        result[k] = x;
        keepResult(r);
        return cells[r * WIDTH + M];
    }

    public int whole(int r, int x) {
        if (!isRegister(r) || !isWithinLimit(x)) {
            return BAD_ARG;
        }
        result[0] = x;
        result[1] = 0;
        result[2] = 0;
        result[3] = 0;
        result[M] = 1;
        return keepResult(r);
    }

    public int part(int r, int k) {
        if (!isRegister(r) || k < 0 || k >= WIDTH) {
            return BAD_ARG;
        }
        return cells[r * WIDTH + k];
    }

    public int add(int r, int x, int y) {
        if (!areRegisters(r, x, y)) {
            return BAD_ARG;
        }
        addTimes(x, y, 1);
        return keepResult(r);
    }

    public int subtract(int r, int x, int y) {
        if (!areRegisters(r, x, y)) {
            return BAD_ARG;
        }
        addTimes(x, y, -1);
        return keepResult(r);
    }

    public int multiply(int r, int x, int y) {
        if (!areRegisters(r, x, y)) {
            return BAD_ARG;
        }
        load(first, x);
        load(second, y);
        multiplyLoaded();
        return keepResult(r);
    }

    public int divide(int r, int x, int y) {
        if (!areRegisters(r, x, y)) {
            return BAD_ARG;
        }
        load(first, x);
        load(second, y);
        if (isZero(second)) {
            return NONE;
        }
        invert(second);
        multiplyLoaded();
        return keepResult(r);
    }

    public int conjugate(int r, int x, int which) {
        if (!isRegister(r) || !isRegister(x) || which < 0 || which >= CONJUGATES) {
            return BAD_ARG;
        }
        load(result, x);
        putConjugate(result, which);
        return keepResult(r);
    }

    public int sign(int r) {
        if (!isRegister(r)) {
            return BAD_ARG;
        }
        load(first, r);
        return signOfSum(first[0], first[1], first[2], first[3]);
    }

    public int compare(int r, int s) {
        if (!isRegister(r) || !isRegister(s)) {
            return BAD_ARG;
        }
        return order(r, s);
    }

    public int floor(int r) {
        if (!isRegister(r)) {
            return BAD_ARG;
        }
        return floorOfTimes(r, 1);
    }

    public int degree(int r) {
        if (!isRegister(r)) {
            return BAD_ARG;
        }
        int roots = 0;
        for (int k = 1; k < M; k++) {
            if (cells[r * WIDTH + k] != 0) {
                roots++;
            }
        }
        // Each root changes its sign in two of the conjugates; two roots never in the same two.
        if (roots == 0) {
            return 1;
        }
        return roots == 1 ? 2 : 4;
    }

    public int positive(int r) {
        if (!isRegister(r)) {
            return BAD_ARG;
        }
        int count = 0;
        for (int which = 0; which < CONJUGATES; which++) {
            load(first, r);
            putConjugate(first, which);
            if (signOfSum(first[0], first[1], first[2], first[3]) > 0) {
                count++;
            }
        }
        return count;
    }

    public int ranked(int k) {
        if (k < 0 || k >= REGISTERS) {
            return BAD_ARG;
        }
        for (int r = 0; r < REGISTERS; r++) {
            if (countBefore(r) == k) {
                return r;
            }
        }
        // Not reached: the ranks of the six registers are 0 to 5, each once.
        return BAD_ARG;
    }

    public int multipleFloor(int r, int n) {
        if (!isRegister(r) || n < 0 || n > GREATEST_MULTIPLE) {
            return BAD_ARG;
        }
        return floorOfTimes(r, n);
    }

    public boolean inverse(int r, int s) {
        if (!isRegister(r) || !isRegister(s)) {
            return false;
        }
        load(first, r);
        load(second, s);
        multiplyLoaded();
        return result[0] == result[M] && result[1] == 0 && result[2] == 0 && result[3] == 0;
    }

    public int norm(int r) {
        if (!isRegister(r)) {
            return BAD_ARG;
        }
        load(first, r);
        long top = conjugateProduct(first);
        long bottom = first[M] * first[M] * first[M] * first[M];
        if (bottom == 0 || top % bottom != 0) {
            return NONE;
        }
        long value = top / bottom;
        return value < -NORM_LIMIT || value > NORM_LIMIT ? NONE : (int) value;
    }

    private static boolean isRegister(int r) {
        return r >= 0 && r < REGISTERS;
    }

    private static boolean areRegisters(int r, int x, int y) {
        return isRegister(r) && isRegister(x) && isRegister(y);
    }

    private static boolean isWithinLimit(long x) {
        return x >= -LIMIT && x <= LIMIT;
    }

    private static boolean isZero(long[] number) {
        return number[0] == 0 && number[1] == 0 && number[2] == 0 && number[3] == 0;
    }

    private void load(long[] number, int r) {
        for (int k = 0; k < WIDTH; k++) {
            number[k] = cells[r * WIDTH + k];
        }
    }

    /** Register r becomes the result, written without common divisor, unless that is over. */
    private int keepResult(int r) {
        reduceResult();
        for (int k = 0; k < WIDTH; k++) {
            if (!isWithinLimit(result[k])) {
                return OVER;
            }
        }
        for (int k = 0; k < WIDTH; k++) {
            cells[r * WIDTH + k] = (int) result[k];
        }
        return 0;
    }

    private void reduceResult() {
        long divisor = result[M];
        for (int k = 0; k < M; k++) {
            divisor = commonDivisor(divisor, result[k]);
        }
        // A quotient by a number of negative norm comes with a negative m.
        if ((divisor < 0) != (result[M] < 0)) {
            divisor = -divisor;
        }
        if (divisor == 0) {
            return;
        }
        for (int k = 0; k < WIDTH; k++) {
            result[k] = result[k] / divisor;
        }
    }

    /** The greatest common divisor, of either sign. */
    private static long commonDivisor(long x, long y) {
        long greater = x;
        long lesser = y;
        for (int step = 0; step < GCD_STEPS && lesser != 0; step++) {
            long rest = greater % lesser;
            greater = lesser;
            lesser = rest;
        }
        return greater;
    }

    /** The result becomes register x plus times (1 or -1) register y. */
    private void addTimes(int x, int y, int times) {
        load(first, x);
        load(second, y);
        for (int k = 0; k < M; k++) {
            result[k] = first[k] * second[M] + times * second[k] * first[M];
        }
        result[M] = first[M] * second[M];
    }

    /** The result becomes the first number times the second. */
    private void multiplyLoaded() {
        long a = first[0];
        long b = first[1];
        long c = first[2];
        long d = first[3];
        result[0] = a * second[0] + 2 * b * second[1] + 3 * c * second[2] + 6 * d * second[3];
        result[1] = a * second[1] + b * second[0] + 3 * c * second[3] + 3 * d * second[2];
        result[2] = a * second[2] + c * second[0] + 2 * b * second[3] + 2 * d * second[1];
        result[3] = a * second[3] + d * second[0] + b * second[2] + c * second[1];
        result[M] = first[M] * second[M];
    }

    /**
     * With p = a + b V2 + c V3 + d V6 and q the same with -V2, p q is u + v V3, and that times
     * u - v V3 is the product of the four conjugates of p: so 1 / p is q (u - v V3) over that.
     */
    private static void invert(long[] number) {
        long u = pairWhole(number);
        long v = pairRoot3(number);
        long norm = conjugateProduct(number);
        long a = number[0];
        long b = number[1];
        long c = number[2];
        long d = number[3];
        long m = number[M];
        number[0] = m * (a * u - 3 * c * v);
        number[1] = m * (3 * d * v - b * u);
        number[2] = m * (c * u - a * v);
        number[3] = m * (b * v - d * u);
        number[M] = norm;
    }

    /** The product of the four conjugates of m times the number. */
    private static long conjugateProduct(long[] number) {
        long u = pairWhole(number);
        long v = pairRoot3(number);
        return u * u - 3 * v * v;
    }

    /** u where (a + b V2 + c V3 + d V6) (a - b V2 + c V3 - d V6) = u + v V3. */
    private static long pairWhole(long[] number) {
        return number[0] * number[0] - 2 * number[1] * number[1]
            + 3 * number[2] * number[2] - 6 * number[3] * number[3];
    }

    /** v where (a + b V2 + c V3 + d V6) (a - b V2 + c V3 - d V6) = u + v V3. */
    private static long pairRoot3(long[] number) {
        return 2 * number[0] * number[2] - 4 * number[1] * number[3];
    }

    private static void putConjugate(long[] number, int which) {
        int root2 = which == 1 || which == 3 ? -1 : 1;
        int root3 = which == 2 || which == 3 ? -1 : 1;
        number[1] = root2 * number[1];
        number[2] = root3 * number[2];
        number[3] = root2 * root3 * number[3];
    }

    /** The sign of a + b V2 + c V3 + d V6, seen as p + q V3 with p = a + b V2, q = c + d V2. */
    private static int signOfSum(long a, long b, long c, long d) {
        int p = signOfPair(a, b);
        int q = signOfPair(c, d);
        if (p == q || q == 0) {
            return p;
        }
        if (p == 0) {
            return q;
        }
        // The signs are opposite, so the greater of p p and 3 q q decides.
        long e = a * a + 2 * b * b - 3 * c * c - 6 * d * d;
        long f = 2 * a * b - 6 * c * d;
        return p * signOfPair(e, f);
    }

    /** The sign of e + f V2. */
    private static int signOfPair(long e, long f) {
        if (e == 0 && f == 0) {
            return 0;
        }
        if (e >= 0 && f >= 0) {
            return 1;
        }
        if (e <= 0 && f <= 0) {
            return -1;
        }
        // Never equal, since V2 is no fraction.
        boolean wholeDecides = e * e > 2 * f * f;
        return wholeDecides == (e > 0) ? 1 : -1;
    }

    private int order(int r, int s) {
        addTimes(r, s, -1);
        return signOfSum(result[0], result[1], result[2], result[3]);
    }

    /** How many registers stand before register r in rising order. */
    private int countBefore(int r) {
        int count = 0;
        for (int s = 0; s < REGISTERS; s++) {
            int side = order(s, r);
            if (side < 0 || (side == 0 && s < r)) {
                count++;
            }
        }
        return count;
    }

    /** The floor of n times register r: the greatest whole number that is not above it. */
    private int floorOfTimes(int r, int n) {
        load(first, r);
        int below = -(1 << FLOOR_BITS);
        for (int bit = FLOOR_BITS; bit >= 0; bit--) {
            int next = below + (1 << bit);
            long rest = n * first[0] - next * first[M];
            if (signOfSum(rest, n * first[1], n * first[2], n * first[3]) >= 0) {
                below = next;
            }
        }
        return below;
    }
}
