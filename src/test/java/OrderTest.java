/** Promises 10, 11, 12, 15 and 16: sign, compare, floor, ranked, multipleFloor. */
public final class OrderTest {
    public static void main(String[] args) {
        promise10Sign();
        promise11Compare();
        promise12Floor();
        promises10And12NearWholeNumbers();
        promise15Ranked();
        promise15RankedEqual();
        promise16MultipleFloor();
        wrongRegisters();
        Due.end();
    }

    /** The sign of a number and, turned round, of the number negated. */
    private static void sign(int want, int... number) {
        RootSums sums = Due.with(number);
        Due.is("sign", sums.sign(0), want);
        for (int k = 0; k < 4; k++) {
            sums.put(1, k, 0);
        }
        sums.subtract(1, 1, 0);
        Due.is("sign negated", sums.sign(1), -want);
        Due.parts("sign leaves the register", sums, 0, number);
    }

    private static void promise10Sign() {
        sign(0, 0, 0, 0, 0, 1);
        sign(1, 1, 0, 0, 0, 30);
        sign(1, 0, 1, 0, 0, 30);
        sign(1, 0, 0, 1, 0, 30);
        sign(1, 0, 0, 0, 1, 30);
        sign(1, 30, 30, 30, 30, 1);
        sign(-1, 7, -5, 0, 0, 1);
        sign(1, 17, -12, 0, 0, 1);
        sign(-1, 24, -17, 0, 0, 1);
        sign(1, 26, 0, -15, 0, 1);
        sign(-1, 19, 0, -11, 0, 1);
        sign(1, 5, 0, 0, -2, 1);
        sign(-1, 22, 0, 0, -9, 1);
        sign(1, 0, 27, -22, 0, 1);
        sign(-1, 0, -16, 13, 0, 29);
        sign(1, 0, 7, 0, -4, 1);
        sign(-1, 0, 0, 7, -5, 1);
        // the nearest to 0 that there are
        sign(-1, -17, 19, 24, -21, 1);
        sign(1, -21, -2, 18, -3, 1);
        sign(1, -4, -21, -6, 18, 1);
        sign(-1, -16, -8, -21, 26, 29);
        sign(1, -25, -23, 12, 15, 1);
    }

    private static void compared(int want, int[] x, int[] y) {
        RootSums sums = new RootSums();
        Due.set(sums, 0, x);
        Due.set(sums, 1, y);
        Due.is("compare", sums.compare(0, 1), want);
        Due.is("compare turned round", sums.compare(1, 0), -want);
        Due.is("compare with itself", sums.compare(0, 0), 0);
        Due.parts("compare leaves r", sums, 0, x);
        Due.parts("compare leaves s", sums, 1, y);
    }

    private static void promise11Compare() {
        compared(0, new int[] {1, -2, 3, -4, 30}, new int[] {1, -2, 3, -4, 30});
        compared(1, new int[] {1, 0, 0, 0, 29}, new int[] {1, 0, 0, 0, 30});
        compared(-1, new int[] {-1, 0, 0, 0, 29}, new int[] {-1, 0, 0, 0, 30});
        compared(-1, new int[] {1, 0, 0, 0, 3}, new int[] {1, 0, 0, 0, 2});
        compared(1, new int[] {0, 1, 1, 0, 1}, new int[] {22, 0, 0, 0, 7});
        compared(1, new int[] {0, 0, 1, 0, 1}, new int[] {0, 1, 0, 0, 1});
        compared(-1, new int[] {0, 1, 0, 0, 1}, new int[] {17, 0, 0, 0, 12});
        compared(1, new int[] {0, 1, 0, 0, 1}, new int[] {24, 0, 0, 0, 17});
        compared(-1, new int[] {0, 19, 24, 0, 30}, new int[] {17, 0, 0, 21, 30});
        // the differences of these are OVER as numbers
        compared(1, new int[] {30, 30, 30, 30, 1}, new int[] {-30, -30, -30, -30, 1});
        compared(1, new int[] {30, 30, 30, 30, 1}, new int[] {30, 30, 30, 29, 1});
        compared(1, new int[] {30, 30, 30, 29, 29}, new int[] {30, 30, 30, 29, 30});
    }

    private static void floored(int want, int... number) {
        RootSums sums = Due.with(number);
        Due.is("floor", sums.floor(0), want);
        Due.parts("floor leaves the register", sums, 0, number);
    }

    private static void promise12Floor() {
        floored(0, 0, 0, 0, 0, 1);
        floored(7, 7, 0, 0, 0, 1);
        floored(-7, -7, 0, 0, 0, 1);
        floored(30, 30, 0, 0, 0, 1);
        floored(-30, -30, 0, 0, 0, 1);
        floored(3, 7, 0, 0, 0, 2);
        floored(-4, -7, 0, 0, 0, 2);
        floored(0, 29, 0, 0, 0, 30);
        floored(-1, -1, 0, 0, 0, 30);
        floored(1, 0, 1, 0, 0, 1);
        floored(-2, 0, -1, 0, 0, 1);
        floored(1, 0, 0, 1, 0, 1);
        floored(2, 0, 0, 0, 1, 1);
        floored(-3, 0, 0, 0, -1, 1);
        floored(-1, 12, 0, -7, 0, 1);
        floored(197, 30, 30, 30, 30, 1);
        floored(-198, -30, -30, -30, -30, 1);
        floored(-1, -17, 19, 24, -21, 1);
        floored(0, 17, -19, -24, 21, 1);
        floored(-1, -17, 19, 24, -21, 30);
    }

    /** For all b, c and d: the two numbers on both sides of 0, which are the hardest. */
    private static void promises10And12NearWholeNumbers() {
        double root2 = StrictMath.sqrt(2);
        double root3 = StrictMath.sqrt(3);
        double root6 = StrictMath.sqrt(6);
        for (int b = -30; b <= 30; b++) {
            for (int c = -30; c <= 30; c++) {
                for (int d = -30; d <= 30; d++) {
                    if (b == 0 && c == 0 && d == 0) {
                        continue;
                    }
                    // no such sum is nearer to a whole number than 7 millionths
                    int below = (int) StrictMath.floor(b * root2 + c * root3 + d * root6);
                    besideZero(-below, b, c, d, 1);
                    besideZero(-below - 1, b, c, d, -1);
                }
            }
        }
    }

    private static void besideZero(int a, int b, int c, int d, int want) {
        if (a < -30 || a > 30) {
            return;
        }
        RootSums sums = new RootSums();
        sums.put(0, 0, a);
        sums.put(0, 1, b);
        sums.put(0, 2, c);
        sums.put(0, 3, d);
        String shown = " of " + a + " " + b + " " + c + " " + d;
        Due.is("sign" + shown, sums.sign(0), want);
        Due.is("floor" + shown, sums.floor(0), want > 0 ? 0 : -1);
    }

    private static void ranks(RootSums sums, int... want) {
        for (int k = 0; k < 6; k++) {
            Due.is("ranked(" + k + ")", sums.ranked(k), want[k]);
        }
    }

    private static void promise15Ranked() {
        RootSums sums = new RootSums();
        Due.set(sums, 0, 0, 1, 0, 0, 1);
        Due.set(sums, 1, -17, 19, 24, -21, 1);
        Due.set(sums, 2, 17, 0, 0, 0, 12);
        Due.set(sums, 3, -1, 0, 0, 0, 30);
        Due.set(sums, 4, 30, 30, 30, 30, 1);
        sums.whole(5, 0);
        ranks(sums, 3, 1, 5, 0, 2, 4);
        sums.whole(4, -30);
        ranks(sums, 4, 3, 1, 5, 0, 2);
        for (int k : new int[] {-1, 6, Integer.MIN_VALUE, Integer.MAX_VALUE}) {
            Due.is("ranked(" + k + ")", sums.ranked(k), RootSums.BAD_ARG);
        }
        Due.parts("ranked leaves the registers", sums, 1, -17, 19, 24, -21, 1);
    }

    private static void promise15RankedEqual() {
        RootSums sums = new RootSums();
        ranks(sums, 0, 1, 2, 3, 4, 5);
        sums.whole(0, 1);
        ranks(sums, 1, 2, 3, 4, 5, 0);
        sums.whole(3, 1);
        ranks(sums, 1, 2, 4, 5, 0, 3);
        sums.whole(5, -1);
        sums.whole(2, -1);
        ranks(sums, 2, 5, 1, 4, 0, 3);
        for (int r = 0; r < 6; r++) {
            sums.whole(r, -r);
        }
        ranks(sums, 5, 4, 3, 2, 1, 0);
    }

    private static void multiples(int[] number, int... want) {
        RootSums sums = Due.with(number);
        for (int n = 0; n <= 5; n++) {
            Due.is("multipleFloor(0, " + n + ")", sums.multipleFloor(0, n), want[n]);
        }
        Due.parts("multipleFloor leaves the register", sums, 0, number);
    }

    private static void promise16MultipleFloor() {
        multiples(new int[] {0, 0, 0, 0, 1}, 0, 0, 0, 0, 0, 0);
        multiples(new int[] {30, 0, 0, 0, 1}, 0, 30, 60, 90, 120, 150);
        multiples(new int[] {-30, 0, 0, 0, 1}, 0, -30, -60, -90, -120, -150);
        multiples(new int[] {1, 0, 0, 0, 2}, 0, 0, 1, 1, 2, 2);
        multiples(new int[] {-1, 0, 0, 0, 3}, 0, -1, -1, -1, -2, -2);
        multiples(new int[] {0, 1, 0, 0, 1}, 0, 1, 2, 4, 5, 7);
        multiples(new int[] {0, -1, 0, 0, 1}, 0, -2, -3, -5, -6, -8);
        multiples(new int[] {0, 0, 0, 1, 5}, 0, 0, 0, 1, 1, 2);
        multiples(new int[] {-17, 19, 24, -21, 1}, 0, -1, -1, -1, -1, -1);
        multiples(new int[] {17, -19, -24, 21, 1}, 0, 0, 0, 0, 0, 0);
        multiples(new int[] {30, 30, 30, 30, 1}, 0, 197, 395, 593, 791, 989);
        multiples(new int[] {-30, -30, -30, -30, 1}, 0, -198, -396, -594, -792, -990);
        RootSums sums = Due.with(7, 1, 0, 0, 3);
        for (int n : new int[] {-1, 6, Integer.MIN_VALUE, Integer.MAX_VALUE}) {
            Due.is("multipleFloor(0, " + n + ")", sums.multipleFloor(0, n), RootSums.BAD_ARG);
        }
    }

    private static void wrongRegisters() {
        RootSums sums = new RootSums();
        for (int wrong : Due.WRONG_REGISTERS) {
            Due.is("sign(" + wrong + ")", sums.sign(wrong), RootSums.BAD_ARG);
            Due.is("compare(" + wrong + ", 0)", sums.compare(wrong, 0), RootSums.BAD_ARG);
            Due.is("compare(0, " + wrong + ")", sums.compare(0, wrong), RootSums.BAD_ARG);
            Due.is("floor(" + wrong + ")", sums.floor(wrong), RootSums.BAD_ARG);
            Due.is("multipleFloor(" + wrong + ", 1)", sums.multipleFloor(wrong, 1), RootSums.BAD_ARG);
        }
    }
}
