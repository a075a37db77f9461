/** What every test of the project needs: counting wrong answers, and setting up a register. */
final class Due {
    static final int[] WRONG_REGISTERS = {-1, 6, Integer.MIN_VALUE, Integer.MAX_VALUE};

    private static final int SHOWN_AT_MOST = 50;
    private static int wrong = 0;

    private Due() {
    }

    static void is(String call, long got, long want) {
        if (got == want) {
            return;
        }
        wrong++;
        if (wrong <= SHOWN_AT_MOST) {
            System.out.println(call + " answered " + got + ", due is " + want);
        }
    }

    static void is(String call, boolean got, boolean want) {
        is(call, got ? 1 : 0, want ? 1 : 0);
    }

    /** Register r is (a + b V2 + c V3 + d V6) / m, to the letter. */
    static void parts(String what, RootSums sums, int r, int... want) {
        for (int k = 0; k < 5; k++) {
            is(what + ": part(" + r + ", " + k + ")", sums.part(r, k), want[k]);
        }
    }

    /** Sets register r, which is not 5, by way of register 5, which is left at m. */
    static void set(RootSums sums, int r, int... number) {
        sums.whole(r, 1);
        sums.whole(5, number[4]);
        sums.divide(r, r, 5);
        // a comes last: the 1 that stands for it keeps m from being reduced before
        for (int k = 3; k >= 0; k--) {
            sums.put(r, k, number[k]);
        }
    }

    /** A new object with register 0 set. */
    static RootSums with(int... number) {
        RootSums sums = new RootSums();
        set(sums, 0, number);
        return sums;
    }

    /** Ends the test: exit code 1 if an answer was wrong. */
    static void end() {
        System.out.println(wrong == 0 ? "all answers are as due" : wrong + " answers are not as due");
        if (wrong != 0) {
            System.exit(1);
        }
    }
}
