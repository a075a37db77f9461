/** Promises 5 to 9: add, subtract, multiply, divide, conjugate. */
public final class ArithmeticTest {
    public static void main(String[] args) {
        promise5Add();
        promise6Subtract();
        promise7Multiply();
        promise7MultiplyOver();
        promise8Divide();
        promise8DivideRefuses();
        promise9Conjugate();
        wrongRegisters();
        resultMayReplaceOperand();
        Due.end();
    }

    private static RootSums pair(int[] x, int[] y) {
        RootSums sums = new RootSums();
        Due.set(sums, 0, x);
        Due.set(sums, 1, y);
        Due.set(sums, 2, 7, -7, 7, -7, 11);
        return sums;
    }

    private static int[] number(int... parts) {
        return parts;
    }

    /** The call was refused: register 2 and the two operands are as they were. */
    private static void unchanged(String what, RootSums sums, int[] x, int[] y) {
        Due.parts(what, sums, 0, x);
        Due.parts(what, sums, 1, y);
        Due.parts(what, sums, 2, 7, -7, 7, -7, 11);
    }

    private static void sum(int[] x, int[] y, int... want) {
        RootSums sums = pair(x, y);
        Due.is("add", sums.add(2, 0, 1), 0);
        Due.parts("add", sums, 2, want);
        Due.is("add turned round", sums.add(3, 1, 0), 0);
        Due.parts("add turned round", sums, 3, want);
        Due.parts("add leaves x", sums, 0, x);
        Due.parts("add leaves y", sums, 1, y);
    }

    private static void sumOver(int[] x, int[] y) {
        RootSums sums = pair(x, y);
        Due.is("add over", sums.add(2, 0, 1), RootSums.OVER);
        unchanged("add over", sums, x, y);
    }

    private static void promise5Add() {
        sum(number(1, 2, 3, 4, 1), number(10, 20, -30, -4, 1), 11, 22, -27, 0, 1);
        sum(number(1, 0, 0, 0, 2), number(1, 0, 0, 0, 2), 1, 0, 0, 0, 1);
        sum(number(1, 1, 0, 0, 3), number(1, 0, -1, 0, 6), 3, 2, -1, 0, 6);
        sum(number(1, 0, 0, 0, 3), number(1, 0, 0, 0, 6), 1, 0, 0, 0, 2);
        sum(number(29, 29, 29, 29, 30), number(29, 29, 29, 29, 30), 29, 29, 29, 29, 15);
        sum(number(1, -2, 3, -4, 7), number(-1, 2, -3, 4, 7), 0, 0, 0, 0, 1);
        sum(number(29, -29, 29, -29, 1), number(1, -1, 1, -1, 1), 30, -30, 30, -30, 1);
        sum(number(1, 0, 0, 0, 5), number(0, 1, 0, 0, 6), 6, 5, 0, 0, 30);
        for (int k = 0; k < 4; k++) {
            int[] x = number(1, 1, 1, 1, 1);
            int[] y = number(2, 2, 2, 2, 1);
            x[k] = 30;
            y[k] = 1;
            sumOver(x, y);
            x[k] = -30;
            y[k] = -1;
            sumOver(x, y);
        }
        sumOver(number(1, 0, 0, 0, 29), number(1, 0, 0, 0, 30));
        sumOver(number(1, 0, 0, 0, 4), number(0, 1, 0, 0, 9));
        sumOver(number(1, 0, 0, 0, 30), number(0, 0, 0, 1, 29));
    }

    private static void difference(int[] x, int[] y, int... want) {
        RootSums sums = pair(x, y);
        Due.is("subtract", sums.subtract(2, 0, 1), 0);
        Due.parts("subtract", sums, 2, want);
        Due.parts("subtract leaves x", sums, 0, x);
        Due.parts("subtract leaves y", sums, 1, y);
    }

    private static void promise6Subtract() {
        difference(number(1, 2, 3, 4, 1), number(10, -20, -3, 4, 1), -9, 22, 6, 0, 1);
        difference(number(1, 0, 0, 0, 2), number(1, 0, 0, 0, 3), 1, 0, 0, 0, 6);
        difference(number(1, 0, 0, 0, 3), number(1, 0, 0, 0, 2), -1, 0, 0, 0, 6);
        difference(number(5, 7, 0, 2, 6), number(1, 1, 0, 2, 2), 1, 2, 0, -2, 3);
        difference(number(3, 4, 5, 6, 17), number(3, 4, 5, 6, 17), 0, 0, 0, 0, 1);
        difference(number(-29, 0, 0, 29, 1), number(1, 0, 0, -1, 1), -30, 0, 0, 30, 1);
        for (int k = 0; k < 4; k++) {
            int[] x = number(0, 0, 0, 0, 1);
            int[] y = number(0, 0, 0, 0, 1);
            x[k] = -30;
            y[k] = 1;
            RootSums sums = pair(x, y);
            Due.is("subtract over", sums.subtract(2, 0, 1), RootSums.OVER);
            unchanged("subtract over", sums, x, y);
            Due.is("subtract over", sums.subtract(2, 1, 0), RootSums.OVER);
            unchanged("subtract over", sums, x, y);
        }
        RootSums sums = pair(number(1, 0, 0, 0, 8), number(1, 0, 0, 0, 5));
        Due.is("subtract with m over", sums.subtract(2, 0, 1), RootSums.OVER);
        Due.parts("subtract with m over", sums, 2, 7, -7, 7, -7, 11);
    }

    private static void product(int[] x, int[] y, int... want) {
        RootSums sums = pair(x, y);
        Due.is("multiply", sums.multiply(2, 0, 1), 0);
        Due.parts("multiply", sums, 2, want);
        Due.is("multiply turned round", sums.multiply(3, 1, 0), 0);
        Due.parts("multiply turned round", sums, 3, want);
        Due.parts("multiply leaves x", sums, 0, x);
        Due.parts("multiply leaves y", sums, 1, y);
    }

    private static void promise7Multiply() {
        int[] root2 = number(0, 1, 0, 0, 1);
        int[] root3 = number(0, 0, 1, 0, 1);
        int[] root6 = number(0, 0, 0, 1, 1);
        product(root2, root2, 2, 0, 0, 0, 1);
        product(root3, root3, 3, 0, 0, 0, 1);
        product(root6, root6, 6, 0, 0, 0, 1);
        product(root2, root3, 0, 0, 0, 1, 1);
        product(root2, root6, 0, 0, 2, 0, 1);
        product(root3, root6, 0, 3, 0, 0, 1);
        product(number(1, 1, 1, 0, 1), number(2, 1, 0, -2, 2), 4, -3, -2, -1, 2);
        product(number(0, 1, 0, 0, 2), root2, 1, 0, 0, 0, 1);
        product(number(30, 0, 0, 0, 1), number(1, -1, 1, -1, 30), 1, -1, 1, -1, 1);
        product(number(0, 0, 0, 0, 1), number(30, -30, 30, -30, 29), 0, 0, 0, 0, 1);
        product(number(-1, 0, 0, 0, 1), number(30, -30, 30, -30, 29), -30, 30, -30, 30, 29);
        product(number(1, 0, 0, 0, 5), number(0, 0, 1, 0, 6), 0, 0, 1, 0, 30);
        // what has not been reduced is far beyond the limit here
        product(number(0, 0, 0, 30, 29), number(0, 0, 0, 29, 30), 6, 0, 0, 0, 1);
    }

    private static void productOver(int[] x, int[] y) {
        RootSums sums = pair(x, y);
        Due.is("multiply over", sums.multiply(2, 0, 1), RootSums.OVER);
        unchanged("multiply over", sums, x, y);
    }

    private static void promise7MultiplyOver() {
        productOver(number(16, 0, 0, 0, 1), number(2, 0, 0, 0, 1));
        productOver(number(-16, 0, 0, 0, 1), number(2, 0, 0, 0, 1));
        productOver(number(0, 16, 0, 0, 1), number(2, 0, 0, 0, 1));
        productOver(number(0, 0, -16, 0, 1), number(2, 0, 0, 0, 1));
        productOver(number(0, 0, 0, 16, 1), number(2, 0, 0, 0, 1));
        productOver(number(1, 0, 0, 0, 4), number(1, 0, 0, 0, 8));
        productOver(number(0, 0, 1, 0, 4), number(0, 1, 0, 0, 9));
        productOver(number(30, 30, 30, 30, 1), number(30, 30, 30, 30, 1));
    }

    private static void quotient(int[] x, int[] y, int... want) {
        RootSums sums = pair(x, y);
        Due.is("divide", sums.divide(2, 0, 1), 0);
        Due.parts("divide", sums, 2, want);
        Due.parts("divide leaves x", sums, 0, x);
        Due.parts("divide leaves y", sums, 1, y);
    }

    private static void promise8Divide() {
        int[] one = number(1, 0, 0, 0, 1);
        quotient(one, number(0, 1, 0, 0, 1), 0, 1, 0, 0, 2);
        quotient(one, number(0, 0, -1, 0, 1), 0, 0, -1, 0, 3);
        quotient(one, number(0, 0, 0, 1, 1), 0, 0, 0, 1, 6);
        quotient(one, number(0, 1, 1, 0, 1), 0, -1, 1, 0, 1);
        quotient(one, number(1, 1, 0, 1, 1), -7, -5, 4, 3, 1);
        quotient(one, number(1, 1, 1, 1, 1), 1, -1, -1, 1, 2);
        // the product of the four conjugates is -8, -23, -32 and -512
        quotient(one, number(1, 1, 1, 0, 1), 2, 1, 0, -1, 4);
        quotient(one, number(-4, -2, -1, -2, 1), -28, -22, 19, 10, 23);
        quotient(one, number(-4, -1, 2, 1, 1), 1, 2, 1, 1, 4);
        quotient(number(4, 0, 0, 0, 1), number(-4, 2, 0, 2, 1), -1, 1, 1, 0, 2);
        quotient(number(6, 0, 0, 0, 1), number(3, 1, 0, 0, 1), 18, -6, 0, 0, 7);
        quotient(number(1, 0, 0, 0, 30), number(1, 0, 0, 0, 15), 1, 0, 0, 0, 2);
        quotient(number(30, -30, 30, -30, 29), number(-30, 30, -30, 30, 29), -1, 0, 0, 0, 1);
        quotient(number(17, -19, -24, 21, 30), number(17, -19, -24, 21, 29), 29, 0, 0, 0, 30);
        quotient(number(0, 0, 0, 0, 1), number(-1, 2, 3, 4, 30), 0, 0, 0, 0, 1);
        quotient(number(30, 30, 30, 30, 1), number(30, 0, 0, 0, 1), 1, 1, 1, 1, 1);
        quotient(number(1, 1, 1, 1, 30), number(-1, 0, 0, 0, 30), -1, -1, -1, -1, 1);
    }

    private static void promise8DivideRefuses() {
        int[] zero = number(0, 0, 0, 0, 1);
        int[] x = number(5, 4, 8, -10, 6);
        RootSums sums = pair(x, zero);
        Due.is("divide by 0", sums.divide(2, 0, 1), RootSums.NONE);
        unchanged("divide by 0", sums, x, zero);
        Due.is("divide 0 by 0", sums.divide(1, 1, 1), RootSums.NONE);
        unchanged("divide 0 by 0", sums, x, zero);
        Due.is("a wrong register before 0", sums.divide(6, 0, 1), RootSums.BAD_ARG);
        Due.is("a wrong register before 0", sums.divide(2, 6, 1), RootSums.BAD_ARG);

        int[] one = number(1, 0, 0, 0, 1);
        int[] y = number(1, 1, -2, 1, 1);
        sums = pair(one, y);
        Due.is("divide with m over", sums.divide(2, 0, 1), RootSums.OVER);
        unchanged("divide with m over", sums, one, y);
        int[] thirtieth = number(1, 0, 0, 0, 30);
        int[] two = number(2, 0, 0, 0, 1);
        sums = pair(thirtieth, two);
        Due.is("divide with m over", sums.divide(2, 0, 1), RootSums.OVER);
        Due.is("divide with a over", sums.divide(2, 1, 0), RootSums.OVER);
        unchanged("divide over", sums, thirtieth, two);
        int[] small = number(17, -19, -24, 21, 1);
        sums = pair(one, small);
        Due.is("divide by a small one", sums.divide(2, 0, 1), RootSums.OVER);
        unchanged("divide by a small one", sums, one, small);
    }

    private static void promise9Conjugate() {
        RootSums sums = Due.with(1, 2, -3, 4, 5);
        int[][] want = {{1, 2, -3, 4, 5}, {1, -2, -3, -4, 5}, {1, 2, 3, -4, 5}, {1, -2, 3, 4, 5}};
        for (int which = 0; which < 4; which++) {
            Due.is("conjugate(1, 0, " + which + ")", sums.conjugate(1, 0, which), 0);
            Due.parts("conjugate " + which, sums, 1, want[which]);
            Due.parts("conjugate leaves x", sums, 0, 1, 2, -3, 4, 5);
        }
        for (int which : new int[] {-1, 4, 5, Integer.MIN_VALUE, Integer.MAX_VALUE}) {
            Due.is("conjugate(1, 0, " + which + ")", sums.conjugate(1, 0, which), RootSums.BAD_ARG);
        }
        Due.parts("refused conjugate", sums, 1, 1, -2, 3, 4, 5);
        Due.is("conjugate of itself", sums.conjugate(0, 0, 1), 0);
        Due.parts("conjugate of itself", sums, 0, 1, -2, -3, -4, 5);
        Due.set(sums, 2, 30, -30, 30, -30, 29);
        Due.is("conjugate at the limit", sums.conjugate(2, 2, 2), 0);
        Due.parts("conjugate at the limit", sums, 2, 30, -30, -30, 30, 29);
        Due.is("conjugate of 0", sums.conjugate(2, 4, 3), 0);
        Due.parts("conjugate of 0", sums, 2, 0, 0, 0, 0, 1);
    }

    private static void wrongRegisters() {
        int[] one = number(1, 0, 0, 0, 1);
        int[] two = number(2, 0, 0, 0, 1);
        RootSums sums = pair(one, two);
        for (int wrong : Due.WRONG_REGISTERS) {
            for (int place = 0; place < 3; place++) {
                int r = place == 0 ? wrong : 2;
                int x = place == 1 ? wrong : 0;
                int y = place == 2 ? wrong : 1;
                String where = "(" + r + ", " + x + ", " + y + ")";
                Due.is("add" + where, sums.add(r, x, y), RootSums.BAD_ARG);
                Due.is("subtract" + where, sums.subtract(r, x, y), RootSums.BAD_ARG);
                Due.is("multiply" + where, sums.multiply(r, x, y), RootSums.BAD_ARG);
                Due.is("divide" + where, sums.divide(r, x, y), RootSums.BAD_ARG);
            }
            Due.is("conjugate", sums.conjugate(wrong, 0, 0), RootSums.BAD_ARG);
            Due.is("conjugate", sums.conjugate(2, wrong, 0), RootSums.BAD_ARG);
        }
        unchanged("wrong registers", sums, one, two);
    }

    private static void resultMayReplaceOperand() {
        int[] x = number(1, 2, 0, 1, 2);
        int[] y = number(0, 1, 1, 0, 1);
        RootSums sums = pair(x, y);
        sums.add(0, 0, 1);
        Due.parts("x becomes x + y", sums, 0, 1, 4, 2, 1, 2);
        sums.subtract(0, 0, 1);
        Due.parts("x becomes x - y", sums, 0, 1, 2, 0, 1, 2);
        sums.multiply(0, 0, 1);
        Due.parts("x becomes x y", sums, 0, 4, 4, 3, 2, 2);
        sums.divide(0, 0, 1);
        Due.parts("x becomes x / y", sums, 0, 1, 2, 0, 1, 2);
        sums = pair(x, y);
        sums.subtract(1, 0, 1);
        Due.parts("y becomes x - y", sums, 1, 1, 0, -2, 1, 2);
        sums.multiply(1, 1, 1);
        Due.parts("y becomes y y", sums, 1, 19, -12, -4, 2, 4);
        sums.divide(1, 1, 1);
        Due.parts("y becomes y / y", sums, 1, 1, 0, 0, 0, 1);
        sums = pair(number(0, 1, 0, 0, 1), number(0, 0, 1, 0, 1));
        sums.divide(1, 0, 1);
        Due.parts("y becomes x / y", sums, 1, 0, 0, 0, 1, 3);
    }
}
