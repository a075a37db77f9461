import java.util.function.ToIntFunction;

/** "An object is used for at most 512 calls after it has been made": all 512 are answered. */
public final class LifetimeTest {
    private static final int CALLS = 512;
    private static final int CALLS_OF_FILLED = 38;

    public static void main(String[] args) {
        refusedCallsAndThenEveryRegister();
        upAndDownBetweenTheLimits();
        eachQuestionAsTheLastCall();
        eachChangeSeenByTheLastCalls();
        twoObjectsInTurn();
        Due.end();
    }

    private static int refused(RootSums sums, int turn) {
        return switch (turn % 12) {
            case 0 -> sums.put(0, 4, 1);
            case 1 -> sums.put(0, 0, 31);
            case 2 -> sums.whole(6, 0);
            case 3 -> sums.whole(0, -31);
            case 4 -> sums.conjugate(0, 1, 4);
            case 5 -> sums.divide(0, 1, -1);
            case 6 -> sums.add(0, 2, 2);
            case 7 -> sums.subtract(1, 3, 2);
            case 8 -> sums.multiply(2, 2, 2);
            case 9 -> sums.divide(3, 2, 5);
            case 10 -> sums.divide(4, 4, 1);
            default -> sums.inverse(6, 0) ? 1 : 0;
        };
    }

    private static int code(int turn) {
        int kind = turn % 12;
        if (kind < 6) {
            return RootSums.BAD_ARG;
        }
        if (kind < 10) {
            return RootSums.OVER;
        }
        return kind == 10 ? RootSums.NONE : 0;
    }

    /** "A refused call .. changes nothing": nor do hundreds of them. */
    private static void refusedCallsAndThenEveryRegister() {
        int[] zero = {0, 0, 0, 0, 1};
        int[] due = Edge.look(Edge.filled(Edge.number(5, 4, 8, -10, 6), zero));
        RootSums sums = Edge.filled(Edge.number(5, 4, 8, -10, 6), zero);
        for (int turn = 0; turn < CALLS - CALLS_OF_FILLED - Edge.LOOK; turn++) {
            Due.is("refused call " + turn, refused(sums, turn), code(turn));
        }
        Edge.same("hundreds of refused calls", sums, due);
    }

    /** Register 0 goes by 1 to the limit, is refused there, and goes back to the other one. */
    private static void upAndDownBetweenTheLimits() {
        RootSums sums = new RootSums();
        sums.whole(1, 1);
        int value = 0;
        boolean up = true;
        for (int call = 1; call + 2 <= CALLS; call += 2) {
            boolean over = value == (up ? 30 : -30);
            int got = up ? sums.add(0, 0, 1) : sums.subtract(0, 0, 1);
            Due.is("step at " + value, got, over ? RootSums.OVER : 0);
            value += over ? 0 : up ? 1 : -1;
            Due.is("after the step", sums.part(0, 0), value);
            up = over ? !up : up;
        }
        Due.is("the last call", sums.sign(0), value > 0 ? 1 : value < 0 ? -1 : 0);
    }

    /** An object after so many calls, whose registers are those of a filled one. */
    private static RootSums used(int calls) {
        RootSums sums = Edge.filled();
        for (int call = CALLS_OF_FILLED; call < calls; call++) {
            sums.ranked(call % 6);
        }
        return sums;
    }

    private static void last(String call, int want, ToIntFunction<RootSums> run) {
        RootSums sums = used(CALLS - 1);
        Due.is("call 512, " + call, Edge.answer(sums, call, run), want);
    }

    private static void eachQuestionAsTheLastCall() {
        last("part", 6, sums -> sums.part(0, 4));
        last("sign", -1, sums -> sums.sign(3));
        last("compare", 1, sums -> sums.compare(1, 0));
        last("floor", 74, sums -> sums.floor(5));
        last("degree", 4, sums -> sums.degree(0));
        last("positive", 2, sums -> sums.positive(2));
        last("ranked", 3, sums -> sums.ranked(0));
        last("multipleFloor", 372, sums -> sums.multipleFloor(5, 5));
        last("inverse", 0, sums -> sums.inverse(0, 1) ? 1 : 0);
        last("norm", RootSums.NONE, sums -> sums.norm(1));
        last("put", 6, sums -> sums.put(0, 0, 7));
        last("whole", 0, sums -> sums.whole(0, 30));
        last("whole refused", RootSums.BAD_ARG, sums -> sums.whole(0, 31));
        last("add over", RootSums.OVER, sums -> sums.add(0, 2, 2));
        last("divide", 0, sums -> sums.divide(0, 2, 2));
    }

    /** Call 507 changes register 4, and the five after it read that register. */
    private static void change(String call, ToIntFunction<RootSums> run, int want, int... number) {
        RootSums sums = used(CALLS - 6);
        Due.is("call 507, " + call, Edge.answer(sums, call, run), want);
        Due.parts("calls 508 to 512, " + call, sums, 4, number);
    }

    private static void eachChangeSeenByTheLastCalls() {
        change("put", sums -> sums.put(4, 1, 30), 13, 7, 30, -7, 11, 13);
        change("whole", sums -> sums.whole(4, -30), 0, -30, 0, 0, 0, 1);
        change("add", sums -> sums.add(4, 2, 4), RootSums.OVER, 7, 0, -7, 11, 13);
        change("add", sums -> sums.add(4, 0, 0), 0, 5, 4, 8, -10, 3);
        change("subtract", sums -> sums.subtract(4, 4, 4), 0, 0, 0, 0, 0, 1);
        change("multiply", sums -> sums.multiply(4, 1, 1), RootSums.OVER, 7, 0, -7, 11, 13);
        change("divide", sums -> sums.divide(4, 3, 3), 0, 1, 0, 0, 0, 1);
        change("conjugate", sums -> sums.conjugate(4, 2, 3), 0, 30, 30, -30, -30, 29);
    }

    /** What one object does the other does not see, call after call. */
    private static void twoObjectsInTurn() {
        RootSums one = new RootSums();
        RootSums other = new RootSums();
        one.put(0, 1, 1);
        other.put(0, 2, 1);
        for (int turn = 0; turn < (CALLS - 6) / 2; turn++) {
            Due.is("one in turn", one.multiply(1, 0, 0), 0);
            Due.is("other in turn", other.multiply(1, 0, 0), 0);
            Due.is("one in turn", one.norm(0), 4);
            Due.is("other in turn", other.norm(0), 9);
        }
        Due.parts("one", one, 1, 2, 0, 0, 0, 1);
        Due.parts("other", other, 1, 3, 0, 0, 0, 1);
    }
}
