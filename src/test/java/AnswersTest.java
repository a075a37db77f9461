/**
 * Where an answer changes: at 0, at whole numbers, between numbers that are all but equal, at the
 * least and greatest answers, and at the bounds of the norm. A question changes no register.
 */
public final class AnswersTest {
    private static final int NONE = RootSums.NONE;
    private static final int[] GREATEST = {30, 30, 30, 30, 1};
    private static final int[] LEAST = {-30, -30, -30, -30, 1};
    /** About 0.00000025: of the numbers with a root in them none is nearer to 0. */
    private static final int[] JUST_ABOVE_0 = {17, -19, -24, 21, 30};
    private static final int[] JUST_BELOW_0 = {-17, 19, 24, -21, 30};

    /** Pairs of which the first is less, but by no more than 0.00000000000007. */
    private static final int[][][] ALL_BUT_EQUAL = {
        {{11, 26, 6, -5, 29}, {-20, 13, -7, 25, 30}},
        {{11, -3, 6, -5, 29}, {-20, -17, -7, 25, 30}},
        {{14, 11, 19, -7, 28}, {-18, -3, 6, 24, 29}},
        {{18, 3, 23, -24, 29}, {-14, -11, 9, 7, 28}},
        {{9, 16, 26, -12, 29}, {-23, 1, 11, 19, 27}},
        {{23, 26, 16, -19, 27}, {-9, 13, 3, 12, 29}},
        {{14, 17, 9, -21, 28}, {-19, 2, -5, 11, 27}},
        {{6, 30, -2, -8, 29}, {-26, 13, -15, 23, 26}},
        {{26, 13, 15, -23, 26}, {-6, -1, 2, 8, 29}},
        {{15, 7, 27, -25, 25}, {-19, -8, 16, 6, 29}},
        {{15, 5, 12, -10, 23}, {-20, -11, -1, 25, 30}},
        {{30, -11, 29, -25, 25}, {-4, -28, 16, 8, 27}},
    };

    public static void main(String[] args) {
        promise1NewObject();
        promise10SignAtZero();
        promise11CompareAllButEqual();
        promise11CompareEqual();
        termsDifferentListsAreDifferentNumbers();
        promise12FloorAtWholeNumbers();
        promise12FloorLeastAndGreatest();
        promises12And16NearWholeNumbers();
        promise13DegreeOfEachKind();
        promise14PositiveOfEachCount();
        promise14PositiveAtZero();
        promise15RankedAllButEqual();
        promise15RankedEqual();
        promise16MultipleFloorOfNone();
        promise16MultipleFloorAtWholeNumbers();
        promise16MultipleFloorLeastAndGreatest();
        promise17InverseAtOne();
        promise17InverseOfItself();
        promise18NormAtItsBounds();
        promise18NormWhole();
        Due.end();
    }

    private static void sign(int want, int... number) {
        Edge.keeps(Edge.filled(number, number), Edge.shown("sign of", number), want,
            sums -> sums.sign(0));
    }

    private static void compare(int want, int[] x, int[] y) {
        String pair = Edge.shown("", x) + Edge.shown(" and ", y);
        Edge.keeps(Edge.filled(x, y), "compare" + pair, want, sums -> sums.compare(0, 1));
        Edge.keeps(Edge.filled(x, y), "compare, turned," + pair, -want, sums -> sums.compare(1, 0));
    }

    private static void floor(int want, int... number) {
        Edge.keeps(Edge.filled(number, number), Edge.shown("floor of", number), want,
            sums -> sums.floor(0));
        Edge.keeps(Edge.filled(number, number), Edge.shown("floor once of", number), want,
            sums -> sums.multipleFloor(0, 1));
    }

    private static void multipleFloor(int want, int n, int... number) {
        Edge.keeps(Edge.filled(number, number), n + Edge.shown(" times", number), want,
            sums -> sums.multipleFloor(0, n));
    }

    private static void degree(int want, int... number) {
        Edge.keeps(Edge.filled(number, number), Edge.shown("degree of", number), want,
            sums -> sums.degree(0));
    }

    private static void positive(int want, int... number) {
        Edge.keeps(Edge.filled(number, number), Edge.shown("positive of", number), want,
            sums -> sums.positive(0));
    }

    private static void inverse(boolean want, int[] x, int[] y) {
        String pair = Edge.shown("", x) + Edge.shown(" and ", y);
        Edge.keeps(Edge.filled(x, y), "inverse" + pair, want ? 1 : 0,
            sums -> sums.inverse(0, 1) ? 1 : 0);
        Edge.keeps(Edge.filled(x, y), "inverse, turned," + pair, want ? 1 : 0,
            sums -> sums.inverse(1, 0) ? 1 : 0);
    }

    private static void norm(int want, int... number) {
        Edge.keeps(Edge.filled(number, number), Edge.shown("norm of", number), want,
            sums -> sums.norm(0));
    }

    private static void ranks(RootSums sums, int... want) {
        for (int k = 0; k < 6; k++) {
            int place = k;
            Edge.keeps(sums, "ranked(" + k + ")", want[k], it -> it.ranked(place));
        }
    }

    /** "All registers are 0": and every question is answered as for 0. */
    private static void promise1NewObject() {
        RootSums sums = new RootSums();
        for (int r = 0; r < 6; r++) {
            Due.parts("new", sums, r, 0, 0, 0, 0, 1);
            Due.is("sign when new", sums.sign(r), 0);
            Due.is("floor when new", sums.floor(r), 0);
            Due.is("degree when new", sums.degree(r), 1);
            Due.is("positive when new", sums.positive(r), 0);
            Due.is("norm when new", sums.norm(r), 0);
            Due.is("ranked when new", sums.ranked(r), r);
            Due.is("multipleFloor when new", sums.multipleFloor(r, 5), 0);
            for (int s = 0; s < 6; s++) {
                Due.is("compare when new", sums.compare(r, s), 0);
                Due.is("inverse when new", sums.inverse(r, s), false);
            }
        }
        Edge.same("the questions", sums, Edge.look(new RootSums()));
    }

    /** "-1, 0 or 1 as register r is below, equal to or above 0". */
    private static void promise10SignAtZero() {
        sign(0, 0, 0, 0, 0, 1);
        sign(1, JUST_ABOVE_0);
        sign(-1, JUST_BELOW_0);
        sign(1, 1, 0, 0, 0, 30);
        sign(-1, -1, 0, 0, 0, 30);
        sign(1, GREATEST);
        sign(-1, LEAST);
        // the squares differ by 1 or 2: 289 and 288, 576 and 578, 676 and 675, 361 and 363
        sign(1, 17, -12, 0, 0, 30);
        sign(-1, 24, -17, 0, 0, 29);
        sign(1, 26, 0, -15, 0, 29);
        sign(-1, 19, 0, -11, 0, 30);
        // .. and 25 and 24, 484 and 486, 1458 and 1452, 507 and 512, 147 and 150
        sign(1, 5, 0, 0, -2, 29);
        sign(-1, 22, 0, 0, -9, 29);
        sign(1, 0, 27, -22, 0, 29);
        sign(1, 0, 16, -13, 0, 29);
        sign(-1, 0, 0, 7, -5, 29);
        RootSums sums = Edge.filled(JUST_ABOVE_0, JUST_BELOW_0);
        sums.add(2, 0, 1);
        Edge.keeps(sums, "sign of a sum that is 0", 0, it -> it.sign(2));
    }

    private static void promise11CompareAllButEqual() {
        for (int[][] pair : ALL_BUT_EQUAL) {
            compare(-1, pair[0], pair[1]);
        }
        compare(1, GREATEST, LEAST);
        compare(1, GREATEST, Edge.number(30, 30, 30, 29, 1));
        compare(-1, LEAST, Edge.number(-29, -30, -30, -30, 1));
        compare(-1, Edge.number(1, 0, 0, 0, 30), Edge.number(1, 0, 0, 0, 29));
        compare(1, Edge.number(-1, 0, 0, 0, 30), Edge.number(-1, 0, 0, 0, 29));
        compare(1, JUST_ABOVE_0, Edge.number(0, 0, 0, 0, 1));
        compare(-1, JUST_BELOW_0, Edge.number(0, 0, 0, 0, 1));
        compare(1, JUST_ABOVE_0, JUST_BELOW_0);
    }

    /** ".. equal to ..": a register and itself, and two registers with the same number. */
    private static void promise11CompareEqual() {
        int[][] numbers = {{0, 0, 0, 0, 1}, GREATEST, LEAST, JUST_ABOVE_0, JUST_BELOW_0,
            {30, -30, 30, -30, 29}, {1, 0, 0, 0, 30}};
        for (int[] number : numbers) {
            compare(0, number, number);
        }
        for (int r = 0; r < 6; r++) {
            int same = r;
            Edge.keeps(Edge.filled(), "compare(" + r + ", " + r + ")", 0,
                sums -> sums.compare(same, same));
        }
    }

    /** "(Different such lists are different numbers.)": no two of these compare as equal. */
    private static void termsDifferentListsAreDifferentNumbers() {
        for (int code = 0; code < 81 * 81; code++) {
            int[] x = small(code / 81);
            int[] y = small(code % 81);
            RootSums sums = new RootSums();
            Due.set(sums, 0, x);
            Due.set(sums, 1, y);
            int want = Double.compare(value(x), value(y));
            Due.is(Edge.shown("compare", x) + Edge.shown(" and ", y), sums.compare(0, 1), want);
        }
    }

    /** One of the 81 lists of -1, 0 and 1, with m = 30. */
    private static int[] small(int code) {
        int[] number = {code / 27 - 1, code / 9 % 3 - 1, code / 3 % 3 - 1, code % 3 - 1, 30};
        if (code == 40) {
            number[4] = 1;
        }
        return number;
    }

    private static double value(int... x) {
        return (x[0] + x[1] * Math.sqrt(2) + x[2] * Math.sqrt(3) + x[3] * Math.sqrt(6)) / x[4];
    }

    /** "The greatest whole number that is not above register r": a whole number itself. */
    private static void promise12FloorAtWholeNumbers() {
        for (int whole = -30; whole <= 30; whole++) {
            floor(whole, whole, 0, 0, 0, 1);
        }
        floor(0, 1, 0, 0, 0, 30);
        floor(-1, -1, 0, 0, 0, 30);
        floor(0, 29, 0, 0, 0, 30);
        floor(-1, -29, 0, 0, 0, 30);
        floor(1, 30, 0, 0, 0, 29);
        floor(-2, -30, 0, 0, 0, 29);
        floor(0, JUST_ABOVE_0);
        floor(-1, JUST_BELOW_0);
        // 2 less 0.0000002, -2 and as much, 10 less 0.0000007, -10 and as much
        floor(1, 2, -12, 15, 20, 30);
        floor(-2, -2, 12, -15, -20, 30);
        floor(9, 22, -12, 15, 20, 8);
        floor(-10, -22, 12, -15, -20, 8);
        // 1 less 0.0000002 and 1 and 0.0000006
        floor(0, -28, -12, 15, 20, 30);
        floor(1, 30, -19, -24, 21, 13);
    }

    private static void promise12FloorLeastAndGreatest() {
        floor(197, GREATEST);
        floor(-198, LEAST);
        floor(196, 29, 30, 30, 30, 1);
        floor(-197, -29, -30, -30, -30, 1);
    }

    /**
     * For all b, c and d and all n: where n times their sum is within a thousandth of a whole
     * number, each a and m that bring that whole number to a multiple of m.
     */
    private static void promises12And16NearWholeNumbers() {
        for (int b = -30; b <= 30; b++) {
            for (int c = -30; c <= 30; c++) {
                for (int d = -30; d <= 30; d++) {
                    for (int n = 1; n <= 5; n++) {
                        nearWholeNumber(n, b, c, d);
                    }
                }
            }
        }
    }

    private static void nearWholeNumber(int n, int b, int c, int d) {
        double multiple = n * value(0, b, c, d, 1);
        int whole = (int) Math.rint(multiple);
        // none of them is nearer than a millionth, which a double can tell
        if (Math.abs(multiple - whole) > 0.001 || (b == 0 && c == 0 && d == 0)) {
            return;
        }
        for (int a = -30; a <= 30; a++) {
            for (int m = 1; m <= 30; m++) {
                if ((n * a + whole) % m == 0 && divisor(a, divisor(b, divisor(c, divisor(d, m)))) == 1) {
                    int below = (n * a + whole) / m - (multiple < whole ? 1 : 0);
                    RootSums sums = Due.with(a, b, c, d, m);
                    String call = n + Edge.shown(" times", a, b, c, d, m);
                    Due.is(call, sums.multipleFloor(0, n), below);
                    Due.is(call + ", floor", n == 1 ? sums.floor(0) : below, below);
                }
            }
        }
    }

    private static int divisor(int x, int y) {
        return y == 0 ? Math.abs(x) : divisor(y, x % y);
    }

    /** "The number of different ones among them": each list of parts that are 0 or not. */
    private static void promise13DegreeOfEachKind() {
        for (int part : new int[] {-30, -1, 1, 30}) {
            for (int a = 0; a < 2; a++) {
                int whole = a * (part == 30 ? 29 : 30);
                degree(2, whole, part, 0, 0, 29);
                degree(2, whole, 0, part, 0, 29);
                degree(2, whole, 0, 0, part, 29);
                degree(4, whole, part, part, 0, 29);
                degree(4, whole, part, 0, -part, 29);
                degree(4, whole, 0, -part, part, 29);
                degree(4, whole, part, part, part, 29);
                degree(4, whole, part, -part, part, 29);
            }
        }
        degree(1, 0, 0, 0, 0, 1);
        degree(1, 30, 0, 0, 0, 1);
        degree(1, -1, 0, 0, 0, 30);
    }

    /** "(equal ones counted each)". */
    private static void promise14PositiveOfEachCount() {
        positive(4, 1, 0, 0, 0, 30);
        positive(0, -1, 0, 0, 0, 30);
        positive(2, 0, 1, 0, 0, 30);
        positive(2, 0, 0, -1, 0, 30);
        positive(2, 0, 0, 0, 30, 29);
        positive(1, 0, 1, 1, 1, 30);
        positive(3, 0, -1, -1, -1, 30);
        positive(4, 30, -1, 1, -1, 29);
        positive(0, -30, 1, -1, 1, 29);
        positive(2, GREATEST);
        positive(2, LEAST);
    }

    /** "are above 0": 0 is not; and the conjugate that tells is close to 0 on either side. */
    private static void promise14PositiveAtZero() {
        positive(0, 0, 0, 0, 0, 1);
        positive(2, JUST_ABOVE_0);
        positive(2, JUST_BELOW_0);
        positive(4, 17, -12, 0, 0, 30);
        positive(2, 24, -17, 0, 0, 29);
        positive(4, 26, 0, 15, 0, 29);
        positive(2, 19, 0, 11, 0, 30);
        positive(4, 5, 0, 0, 2, 29);
        positive(2, 22, 0, 0, 9, 29);
        positive(0, -17, 12, 0, 0, 30);
        positive(0, -26, 0, -15, 0, 29);
        positive(0, -5, 0, 0, 2, 29);
    }

    private static void promise15RankedAllButEqual() {
        for (int[][] pair : ALL_BUT_EQUAL) {
            RootSums sums = new RootSums();
            Due.set(sums, 0, pair[1]);
            Due.set(sums, 1, pair[0]);
            sums.conjugate(4, 0, 0);
            sums.conjugate(5, 1, 0);
            sums.whole(2, 30);
            sums.whole(3, -30);
            ranks(sums, 3, 1, 5, 0, 4, 2);
        }
    }

    /** "(.. of equal ones that with the lesser number is before)". */
    private static void promise15RankedEqual() {
        RootSums sums = new RootSums();
        ranks(sums, 0, 1, 2, 3, 4, 5);
        sums = new RootSums();
        Due.set(sums, 0, JUST_ABOVE_0);
        for (int r = 1; r < 6; r++) {
            sums.conjugate(r, 0, 0);
        }
        ranks(sums, 0, 1, 2, 3, 4, 5);
        // three and three, the greater ones first
        sums = new RootSums();
        Due.set(sums, 0, JUST_ABOVE_0);
        Due.set(sums, 4, JUST_BELOW_0);
        sums.conjugate(1, 0, 0);
        sums.conjugate(2, 0, 0);
        sums.conjugate(3, 4, 0);
        sums.conjugate(5, 4, 0);
        ranks(sums, 3, 4, 5, 0, 1, 2);
        // in turn
        sums = new RootSums();
        for (int r = 0; r < 6; r++) {
            sums.whole(r, r % 2 == 0 ? 30 : -30);
        }
        ranks(sums, 1, 3, 5, 0, 2, 4);
    }

    private static void promise16MultipleFloorOfNone() {
        int[][] numbers = {{0, 0, 0, 0, 1}, GREATEST, LEAST, JUST_ABOVE_0, JUST_BELOW_0,
            {-1, 0, 0, 0, 30}, {0, 0, 0, -1, 1}};
        for (int[] number : numbers) {
            multipleFloor(0, 0, number);
        }
    }

    private static void promise16MultipleFloorAtWholeNumbers() {
        for (int n = 1; n <= 5; n++) {
            multipleFloor(1, n, n == 1 ? Edge.number(1, 0, 0, 0, 1) : Edge.number(1, 0, 0, 0, n));
            multipleFloor(-1, n, n == 1 ? Edge.number(-1, 0, 0, 0, 1) : Edge.number(-1, 0, 0, 0, n));
            multipleFloor(0, n, 1, 0, 0, 0, n + 1);
            multipleFloor(-1, n, -1, 0, 0, 0, n + 1);
            multipleFloor(30 * n, n, 30, 0, 0, 0, 1);
            multipleFloor(-30 * n, n, -30, 0, 0, 0, 1);
            multipleFloor(0, n, JUST_ABOVE_0);
            multipleFloor(-1, n, JUST_BELOW_0);
        }
        // each is within four ten-millionths of a whole number, n times
        multipleFloor(-4, 2, -21, 30, -29, -6, 29);
        multipleFloor(3, 2, 21, -30, 29, 6, 29);
        multipleFloor(-3, 3, -1, -12, -22, 15, 29);
        multipleFloor(2, 3, 1, 12, 22, -15, 29);
        multipleFloor(4, 4, -4, -21, 22, 13, 29);
        multipleFloor(-5, 4, 4, 21, -22, -13, 29);
        multipleFloor(8, 5, 27, 16, -7, 6, 29);
        multipleFloor(-4, 5, 2, -16, 7, -6, 29);
        multipleFloor(11, 5, 30, 16, -7, 6, 23);
        multipleFloor(-12, 5, -30, -16, 7, -6, 23);
    }

    /** n times the number is answered though it is OVER as a number. */
    private static void promise16MultipleFloorLeastAndGreatest() {
        int[] greatest = {0, 197, 395, 593, 791, 989};
        int[] least = {0, -198, -396, -594, -792, -990};
        for (int n = 0; n <= 5; n++) {
            multipleFloor(greatest[n], n, GREATEST);
            multipleFloor(least[n], n, LEAST);
        }
    }

    /** "Whether register r times register s is 1": what is all but 1 is not. */
    private static void promise17InverseAtOne() {
        int[] one = {1, 0, 0, 0, 1};
        inverse(true, one, one);
        inverse(true, Edge.number(30, 0, 0, 0, 1), Edge.number(1, 0, 0, 0, 30));
        inverse(true, Edge.number(-30, 0, 0, 0, 29), Edge.number(-29, 0, 0, 0, 30));
        inverse(true, Edge.number(0, 0, 0, 1, 30), Edge.number(0, 0, 0, 5, 1));
        inverse(true, Edge.number(17, 12, 0, 0, 1), Edge.number(17, -12, 0, 0, 1));
        inverse(true, Edge.number(26, 0, 15, 0, 1), Edge.number(26, 0, -15, 0, 1));
        inverse(true, Edge.number(1, 1, 1, 0, 1), Edge.number(2, 1, 0, -1, 4));
        inverse(false, Edge.number(1, 1, 1, 0, 1), Edge.number(-2, -1, 0, 1, 4));
        inverse(false, Edge.number(24, 17, 0, 0, 1), Edge.number(24, -17, 0, 0, 1));
        inverse(false, Edge.number(30, 0, 0, 0, 1), Edge.number(1, 0, 0, 0, 29));
        inverse(false, Edge.number(29, 0, 0, 0, 30), one);
        inverse(false, Edge.number(30, 0, 0, 0, 29), one);
        inverse(false, Edge.number(-28, -12, 15, 20, 30), one);
        inverse(false, Edge.number(30, -19, -24, 21, 13), one);
        // a root beside the 1
        for (int part : new int[] {-30, -1, 1, 30}) {
            inverse(false, Edge.number(1, part, 0, 0, 1), one);
            inverse(false, Edge.number(1, 0, part, 0, 1), one);
            inverse(false, Edge.number(1, 0, 0, part, 1), one);
            inverse(false, Edge.number(29, part, 0, 0, 29), one);
        }
        inverse(false, Edge.number(0, 0, 0, 0, 1), Edge.number(0, 0, 0, 0, 1));
        inverse(false, Edge.number(0, 0, 0, 0, 1), one);
        // the product is OVER as a number
        inverse(false, GREATEST, GREATEST);
        inverse(false, LEAST, JUST_ABOVE_0);
    }

    private static void promise17InverseOfItself() {
        int[][] numbers = {{1, 0, 0, 0, 1}, {-1, 0, 0, 0, 1}, {0, 0, 0, 0, 1}, {0, 1, 0, 0, 1},
            {30, 0, 0, 0, 29}, JUST_ABOVE_0};
        for (int i = 0; i < numbers.length; i++) {
            int want = i < 2 ? 1 : 0;
            Edge.keeps(Edge.filled(numbers[i], numbers[i]), "inverse(0, 0) of number " + i, want,
                sums -> sums.inverse(0, 0) ? 1 : 0);
        }
    }

    /**
     * "if that is a whole number from -900000 to 900000": these are the nearest that there are to
     * the bounds. At a bound itself no number's norm can be: 900000 has 5 as a factor five times,
     * and a norm, since 5 stays prime in the whole numbers with V2, has it an even number of times.
     */
    private static void promise18NormAtItsBounds() {
        norm(899998, -20, -9, -18, -29, 2);
        norm(NONE, -8, -21, -12, -29, 2);
        norm(899908, -28, -1, -14, -22, 1);
        norm(NONE, -25, -14, -16, 30, 1);
        norm(-899996, -30, -10, -28, -25, 1);
        norm(NONE, -22, -11, -28, 27, 2);
        norm(-899874, -30, -15, -20, 29, 2);
        norm(NONE, -30, -27, -7, -21, 1);
        norm(810000, 30, 0, 0, 0, 1);
        norm(NONE, 0, 30, 0, 0, 1);
        norm(NONE, 0, 0, 0, 30, 1);
        norm(NONE, GREATEST);
        norm(NONE, 30, -30, 30, 30, 1);
    }

    /** ".. a whole number ..; else NONE". */
    private static void promise18NormWhole() {
        norm(0, 0, 0, 0, 0, 1);
        norm(1, 1, 0, 0, 0, 1);
        norm(1, -1, 0, 0, 0, 1);
        norm(-8, 1, 1, 1, 0, 1);
        norm(1, 0, 1, 0, 1, 2);
        norm(25, -13, 0, 0, -27, 29);
        norm(1, -10, -5, -22, -11, 26);
        norm(-23, -10, -23, -22, 17, 26);
        norm(-200, -27, -28, -29, 27, 23);
        norm(45688, -5, -1, -3, 30, 5);
        norm(NONE, 1, 0, 0, 0, 2);
        norm(NONE, -1, 0, 0, 0, 30);
        norm(NONE, 0, 1, 0, 0, 2);
        norm(NONE, 0, 0, 1, 0, 3);
        norm(NONE, 0, 0, 0, 1, 6);
        norm(NONE, 1, 1, 1, 0, 2);
        norm(NONE, 30, 30, 30, 30, 29);
        norm(NONE, JUST_ABOVE_0);
    }
}
