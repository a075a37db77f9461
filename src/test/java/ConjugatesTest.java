/** Promises 13, 14, 17 and 18: degree, positive, inverse, norm. */
public final class ConjugatesTest {
    public static void main(String[] args) {
        promise13Degree();
        promise14Positive();
        promise17Inverse();
        promise18Norm();
        promise18NormRange();
        wrongRegisters();
        Due.end();
    }

    private static void degree(int want, int... number) {
        RootSums sums = Due.with(number);
        Due.is("degree", sums.degree(0), want);
        Due.parts("degree leaves the register", sums, 0, number);
    }

    private static void promise13Degree() {
        degree(1, 0, 0, 0, 0, 1);
        degree(1, 7, 0, 0, 0, 3);
        degree(2, 0, 1, 0, 0, 1);
        degree(2, 0, 0, -1, 0, 1);
        degree(2, 0, 0, 0, 1, 1);
        degree(2, 30, 30, 0, 0, 29);
        degree(2, -1, 0, 5, 0, 2);
        degree(2, 1, 0, 0, -7, 2);
        degree(4, 0, 1, 1, 0, 1);
        degree(4, 0, 1, 0, -1, 1);
        degree(4, 5, 0, 1, 1, 3);
        degree(4, 0, 1, 1, 1, 1);
        degree(4, 5, -1, 2, -1, 1);
    }

    private static void positive(int want, int... number) {
        RootSums sums = Due.with(number);
        Due.is("positive", sums.positive(0), want);
        Due.parts("positive leaves the register", sums, 0, number);
    }

    private static void promise14Positive() {
        positive(0, 0, 0, 0, 0, 1);
        positive(4, 1, 0, 0, 0, 30);
        positive(0, -1, 0, 0, 0, 30);
        positive(2, 0, 1, 0, 0, 1);
        positive(2, 0, 0, -1, 0, 1);
        positive(2, 0, 0, 0, 1, 1);
        positive(4, 3, -2, 0, 0, 1);
        positive(2, 7, -5, 0, 0, 1);
        positive(0, -3, 2, 0, 0, 1);
        positive(4, 5, 0, 0, -2, 1);
        positive(3, 1, 1, -2, 1, 1);
        // V2 + V3 + V6 and three of about -2.1, -2.8 and -2.1 beside it
        positive(1, 0, 1, 1, 1, 1);
        positive(3, 0, -1, -1, -1, 1);
        positive(1, -1, 1, 1, 0, 1);
        positive(3, 1, -1, 1, 0, 1);
        positive(3, 1, 1, 1, 0, 29);
        positive(2, 1, 1, 1, 1, 1);
    }

    private static void inverses(boolean want, int[] x, int[] y) {
        RootSums sums = new RootSums();
        Due.set(sums, 0, x);
        Due.set(sums, 1, y);
        Due.is("inverse", sums.inverse(0, 1), want);
        Due.is("inverse turned round", sums.inverse(1, 0), want);
        Due.parts("inverse leaves r", sums, 0, x);
        Due.parts("inverse leaves s", sums, 1, y);
    }

    private static int[] number(int... parts) {
        return parts;
    }

    private static void promise17Inverse() {
        inverses(true, number(1, 0, 0, 0, 1), number(1, 0, 0, 0, 1));
        inverses(true, number(-1, 0, 0, 0, 1), number(-1, 0, 0, 0, 1));
        inverses(true, number(30, 0, 0, 0, 1), number(1, 0, 0, 0, 30));
        inverses(true, number(0, 1, 0, 0, 1), number(0, 1, 0, 0, 2));
        inverses(true, number(0, 1, 1, 0, 1), number(0, -1, 1, 0, 1));
        inverses(true, number(1, 1, 0, 1, 1), number(-7, -5, 4, 3, 1));
        inverses(true, number(1, 1, 1, 0, 1), number(2, 1, 0, -1, 4));
        inverses(true, number(-4, -2, -1, -2, 1), number(-28, -22, 19, 10, 23));
        inverses(false, number(1, 0, 0, 0, 1), number(-1, 0, 0, 0, 1));
        inverses(false, number(0, 0, 0, 0, 1), number(0, 0, 0, 0, 1));
        inverses(false, number(0, 0, 0, 0, 1), number(1, 0, 0, 0, 1));
        inverses(false, number(2, 0, 0, 0, 1), number(1, 0, 0, 0, 1));
        inverses(false, number(30, 30, 30, 30, 1), number(30, 30, 30, 30, 1));
        // each product is 1 and one root
        inverses(false, number(1, 0, 0, 0, 1), number(1, 1, 0, 0, 1));
        inverses(false, number(1, 0, 0, 0, 1), number(1, 0, 1, 0, 1));
        inverses(false, number(1, 0, 0, 0, 1), number(1, 0, 0, 1, 1));
        inverses(false, number(1, 0, 0, 0, 2), number(2, 1, 0, 0, 1));
        // each product is a root alone
        inverses(false, number(1, 0, 0, 0, 1), number(0, 1, 0, 0, 1));
        inverses(false, number(0, 1, 0, 0, 1), number(0, 0, 1, 0, 1));
    }

    private static void norm(int want, int... number) {
        RootSums sums = Due.with(number);
        Due.is("norm", sums.norm(0), want);
        Due.parts("norm leaves the register", sums, 0, number);
    }

    private static void promise18Norm() {
        norm(0, 0, 0, 0, 0, 1);
        norm(1, 1, 0, 0, 0, 1);
        norm(16, -2, 0, 0, 0, 1);
        norm(4, 0, 1, 0, 0, 1);
        norm(9, 0, 0, 1, 0, 1);
        norm(36, 0, 0, 0, -1, 1);
        norm(1, 0, 1, 1, 0, 1);
        norm(1, 1, 1, 0, 1, 1);
        norm(-8, 1, 1, 1, 0, 1);
        norm(4, 1, 1, 1, 1, 1);
        norm(-167, 1, 1, -2, 1, 1);
        norm(-23, -4, -2, -1, -2, 1);
        // whole though the number has m = 2
        norm(1, 0, 1, 0, 1, 2);
        norm(-2, -4, -1, 2, 1, 2);
        norm(RootSums.NONE, 1, 0, 0, 0, 2);
        norm(RootSums.NONE, 1, 1, 1, 1, 2);
        norm(RootSums.NONE, 1, 1, 1, 0, 2);
        norm(RootSums.NONE, 1, 0, 0, 0, 30);
    }

    private static void promise18NormRange() {
        norm(810000, 30, 0, 0, 0, 1);
        norm(810000, -30, 0, 0, 0, 1);
        norm(899908, 1, -4, 25, -12, 1);
        norm(RootSums.NONE, 19, -26, 2, -3, 1);
        norm(-899996, 0, -7, 30, -20, 1);
        norm(RootSums.NONE, 3, -18, 14, -11, 1);
        norm(RootSums.NONE, 0, 0, 0, 30, 1);
        norm(RootSums.NONE, 30, -30, 30, 30, 1);
    }

    private static void wrongRegisters() {
        RootSums sums = new RootSums();
        sums.whole(0, 1);
        for (int wrong : Due.WRONG_REGISTERS) {
            Due.is("degree(" + wrong + ")", sums.degree(wrong), RootSums.BAD_ARG);
            Due.is("positive(" + wrong + ")", sums.positive(wrong), RootSums.BAD_ARG);
            Due.is("norm(" + wrong + ")", sums.norm(wrong), RootSums.BAD_ARG);
            Due.is("inverse(" + wrong + ", 0)", sums.inverse(wrong, 0), false);
            Due.is("inverse(0, " + wrong + ")", sums.inverse(0, wrong), false);
        }
    }
}
