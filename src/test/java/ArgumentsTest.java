import java.util.ArrayList;
import java.util.List;

/**
 * Where the document bounds an argument: the last that is allowed, the first that is not, on both
 * sides, and the ends of int. After every refused call every register is as it was before.
 */
public final class ArgumentsTest {
    private interface Run {
        int on(RootSums sums, int... arguments);
    }

    /** A call, and for each argument the range that the document gives it. */
    private record Call(String name, int refusal, int[][] ranges, Run run) {
        boolean allows(int... arguments) {
            boolean allowed = true;
            for (int i = 0; i < ranges.length; i++) {
                allowed &= arguments[i] >= ranges[i][0] && arguments[i] <= ranges[i][1];
            }
            return allowed;
        }

        void refuses(RootSums sums, int... arguments) {
            Edge.keeps(sums, Edge.shown(name, arguments), refusal, it -> run.on(it, arguments));
        }
    }

    private static final int BAD = RootSums.BAD_ARG;
    private static final int[] REGISTER = {0, 5};
    private static final int[] VALUE = {-30, 30};

    /**
     * Ends of int and what could pass for a register if an index were worked out before it is
     * looked at: 5 times the sixth to ninth is -1, 4, 3 and 1 in an int, and the others end in
     * bits that are a register's.
     */
    private static final int[] FAR = {Integer.MIN_VALUE, Integer.MIN_VALUE + 1,
        Integer.MAX_VALUE - 1, Integer.MAX_VALUE, -1000000, 858993459, 858993460, 1717986919,
        -858993459, 8, 256, 65536, 1 << 30};

    private static final Call PUT = new Call("put", BAD, new int[][] {REGISTER, {0, 3}, VALUE},
        (sums, a) -> sums.put(a[0], a[1], a[2]));
    private static final Call WHOLE = new Call("whole", BAD, new int[][] {REGISTER, VALUE},
        (sums, a) -> sums.whole(a[0], a[1]));
    private static final Call PART = new Call("part", BAD, new int[][] {REGISTER, {0, 4}},
        (sums, a) -> sums.part(a[0], a[1]));
    private static final Call ADD = new Call("add", BAD,
        new int[][] {REGISTER, REGISTER, REGISTER}, (sums, a) -> sums.add(a[0], a[1], a[2]));
    private static final Call SUBTRACT = new Call("subtract", BAD,
        new int[][] {REGISTER, REGISTER, REGISTER}, (sums, a) -> sums.subtract(a[0], a[1], a[2]));
    private static final Call MULTIPLY = new Call("multiply", BAD,
        new int[][] {REGISTER, REGISTER, REGISTER}, (sums, a) -> sums.multiply(a[0], a[1], a[2]));
    private static final Call DIVIDE = new Call("divide", BAD,
        new int[][] {REGISTER, REGISTER, REGISTER}, (sums, a) -> sums.divide(a[0], a[1], a[2]));
    private static final Call CONJUGATE = new Call("conjugate", BAD,
        new int[][] {REGISTER, REGISTER, {0, 3}}, (sums, a) -> sums.conjugate(a[0], a[1], a[2]));
    private static final Call SIGN = new Call("sign", BAD, new int[][] {REGISTER},
        (sums, a) -> sums.sign(a[0]));
    private static final Call COMPARE = new Call("compare", BAD, new int[][] {REGISTER, REGISTER},
        (sums, a) -> sums.compare(a[0], a[1]));
    private static final Call FLOOR = new Call("floor", BAD, new int[][] {REGISTER},
        (sums, a) -> sums.floor(a[0]));
    private static final Call DEGREE = new Call("degree", BAD, new int[][] {REGISTER},
        (sums, a) -> sums.degree(a[0]));
    private static final Call POSITIVE = new Call("positive", BAD, new int[][] {REGISTER},
        (sums, a) -> sums.positive(a[0]));
    private static final Call RANKED = new Call("ranked", BAD, new int[][] {{0, 5}},
        (sums, a) -> sums.ranked(a[0]));
    private static final Call MULTIPLE_FLOOR = new Call("multipleFloor", BAD,
        new int[][] {REGISTER, {0, 5}}, (sums, a) -> sums.multipleFloor(a[0], a[1]));
    private static final Call INVERSE = new Call("inverse", 0, new int[][] {REGISTER, REGISTER},
        (sums, a) -> sums.inverse(a[0], a[1]) ? 1 : 0);
    private static final Call NORM = new Call("norm", BAD, new int[][] {REGISTER},
        (sums, a) -> sums.norm(a[0]));

    private static final List<Call> CALLS = List.of(PUT, WHOLE, PART, ADD, SUBTRACT, MULTIPLY,
        DIVIDE, CONJUGATE, SIGN, COMPARE, FLOOR, DEGREE, POSITIVE, RANKED, MULTIPLE_FLOOR, INVERSE,
        NORM);

    public static void main(String[] args) {
        termsRegistersAreZeroToFive();
        termsAWrongRegisterIsRefused();
        termsAWrongRegisterComesBeforeOver();
        termsAWrongRegisterComesBeforeNone();
        termsAWrongRegisterComesBeforeOtherArguments();
        promise2PutPart();
        promise2PutValue();
        promise3WholeValue();
        promise4PartPart();
        promise9ConjugateWhich();
        promise15RankedPlace();
        promise16MultipleFloorTimes();
        termsNoCallEverThrows();
        Due.end();
    }

    /** Just outside the range on both sides, and far outside it. */
    private static int[] outside(int... range) {
        List<Integer> values = new ArrayList<>(List.of(range[0] - 1, range[1] + 1));
        for (int value : FAR) {
            if (value < range[0] || value > range[1]) {
                values.add(value);
            }
        }
        return values.stream().mapToInt(Integer::intValue).toArray();
    }

    /** Arguments that are all allowed. */
    private static int[] plain(Call call) {
        int[] arguments = new int[call.ranges.length];
        for (int i = 0; i < arguments.length; i++) {
            arguments[i] = i % 3;
        }
        return arguments;
    }

    private static RootSums allOne() {
        RootSums sums = new RootSums();
        for (int r = 0; r < 6; r++) {
            sums.whole(r, 1);
        }
        return sums;
    }

    /** "There are six REGISTERS, 0 to 5": each of them, in each place of each call. */
    private static void termsRegistersAreZeroToFive() {
        int[] dueWithOnes = {1, 0, 0, 0, 0, 0, 0, 0, 1, 0, 1, 1, 4, 0, 1, 1, 1};
        for (int i = 0; i < CALLS.size(); i++) {
            Call call = CALLS.get(i);
            for (int place = 0; place < call.ranges.length; place++) {
                for (int r = 0; r < 6 && call.ranges[place] == REGISTER; r++) {
                    int[] arguments = {0, 1, 1};
                    arguments[place] = r;
                    // part 1 of a whole number is 0, and put(.., 1, 1) leaves m at 1
                    Due.is(Edge.shown(call.name, arguments), call.run.on(allOne(), arguments),
                        dueWithOnes[i]);
                }
            }
        }
        for (int r = 0; r < 6; r++) {
            int target = r;
            Edge.makes(Edge.filled(), "whole(" + r + ", 17)", 0,
                sums -> sums.whole(target, 17), r, 17, 0, 0, 0, 1);
            Edge.makes(Edge.filled(), "conjugate(" + r + ", 1, 3)", 0,
                sums -> sums.conjugate(target, 1, 3), r, -3, -1, 0, 2, 7);
        }
    }

    /** "In all calls with registers, one that is not 0 to 5 answers BAD_ARG (or false)". */
    private static void termsAWrongRegisterIsRefused() {
        for (Call call : CALLS) {
            for (int place = 0; place < call.ranges.length; place++) {
                if (call.ranges[place] == REGISTER) {
                    refusedOutside(call, place);
                }
            }
        }
    }

    private static void refusedOutside(Call call, int place) {
        for (int wrong : outside(call.ranges[place])) {
            int[] arguments = plain(call);
            arguments[place] = wrong;
            call.refuses(Edge.filled(), arguments);
            // all are 1, so that inverse is false for the register's sake alone
            call.refuses(allOne(), arguments);
        }
    }

    /** ".. before anything else": the operands that are right would make the result OVER. */
    private static void termsAWrongRegisterComesBeforeOver() {
        int[] x = Edge.number(30, -30, 30, -30, 1);
        int[] y = Edge.number(-30, 30, -30, 30, 29);
        for (int wrong : outside(REGISTER)) {
            for (Call call : List.of(ADD, SUBTRACT, MULTIPLY)) {
                call.refuses(Edge.filled(x, y), wrong, 0, 0);
                call.refuses(Edge.filled(x, y), wrong, 0, 1);
                call.refuses(Edge.filled(x, y), 0, wrong, 1);
                call.refuses(Edge.filled(x, y), 0, 1, wrong);
            }
            DIVIDE.refuses(Edge.filled(Edge.number(1, 0, 0, 0, 30), Edge.number(2, 0, 0, 0, 1)),
                wrong, 0, 1);
        }
    }

    /** ".. before anything else": the divisor is 0. */
    private static void termsAWrongRegisterComesBeforeNone() {
        int[] zero = Edge.number(0, 0, 0, 0, 1);
        for (int wrong : outside(REGISTER)) {
            DIVIDE.refuses(Edge.filled(Edge.number(3, 1, 0, 0, 1), zero), wrong, 0, 1);
            DIVIDE.refuses(Edge.filled(Edge.number(3, 1, 0, 0, 1), zero), 2, wrong, 1);
            DIVIDE.refuses(Edge.filled(Edge.number(3, 1, 0, 0, 1), zero), wrong, wrong, 1);
            DIVIDE.refuses(new RootSums(), wrong, 1, 2);
        }
    }

    /** ".. before anything else": another argument is wrong too. */
    private static void termsAWrongRegisterComesBeforeOtherArguments() {
        for (int wrong : outside(REGISTER)) {
            for (int other : outside(VALUE)) {
                PUT.refuses(Edge.filled(), wrong, other, other);
                WHOLE.refuses(Edge.filled(), wrong, other);
                PART.refuses(Edge.filled(), wrong, other);
                CONJUGATE.refuses(Edge.filled(), wrong, other, other);
                MULTIPLE_FLOOR.refuses(Edge.filled(), wrong, other);
                INVERSE.refuses(allOne(), wrong, other);
                COMPARE.refuses(Edge.filled(), wrong, other);
            }
        }
    }

    /** put: "BAD_ARG if k is not 0 to 3". */
    private static void promise2PutPart() {
        Edge.makes(Edge.filled(), "put(0, 0, 1)", 6, sums -> sums.put(0, 0, 1), 0, 1, 4, 8, -10, 6);
        Edge.makes(Edge.filled(), "put(0, 3, 1)", 6, sums -> sums.put(0, 3, 1), 0, 5, 4, 8, 1, 6);
        for (int k : outside(0, 3)) {
            for (int r = 0; r < 6; r++) {
                PUT.refuses(Edge.filled(), r, k, 1);
                PUT.refuses(Edge.filled(), r, k, 30);
            }
        }
    }

    /** put: "BAD_ARG if .. x not -30 to 30". */
    private static void promise2PutValue() {
        for (int k = 0; k < 4; k++) {
            for (int x : new int[] {-30, -29, 29, 30}) {
                int[] number = {1, 1, 1, 1, 7};
                int part = k;
                RootSums sums = Edge.filled(number, number);
                number[k] = x;
                Edge.makes(sums, Edge.shown("put", 0, k, x), 7, it -> it.put(0, part, x), 0, number);
            }
            for (int x : outside(VALUE)) {
                PUT.refuses(Edge.filled(), 0, k, x);
                PUT.refuses(Edge.filled(), 5, k, x);
            }
        }
    }

    /** whole: "BAD_ARG if x is not -30 to 30". */
    private static void promise3WholeValue() {
        for (int x : new int[] {-30, -29, 0, 29, 30}) {
            for (int r = 0; r < 6; r++) {
                int target = r;
                Edge.makes(Edge.filled(), Edge.shown("whole", r, x), 0,
                    sums -> sums.whole(target, x), r, x, 0, 0, 0, 1);
            }
        }
        for (int x : outside(VALUE)) {
            for (int r = 0; r < 6; r++) {
                WHOLE.refuses(Edge.filled(), r, x);
            }
        }
    }

    /** part: "a, b, c, d for k from 0 to 3, m for k = 4; BAD_ARG if k is not 0 to 4". */
    private static void promise4PartPart() {
        int[] first = {5, 4, 8, -10, 6};
        int[] last = {13, 30, -30, 29, 1};
        for (int k = 0; k < 5; k++) {
            int part = k;
            Edge.keeps(Edge.filled(), "part(0, " + k + ")", first[k], sums -> sums.part(0, part));
            Edge.keeps(Edge.filled(), "part(5, " + k + ")", last[k], sums -> sums.part(5, part));
        }
        for (int k : outside(0, 4)) {
            for (int r = 0; r < 6; r++) {
                PART.refuses(Edge.filled(), r, k);
            }
        }
    }

    /** conjugate: "BAD_ARG if which is not 0 to 3". */
    private static void promise9ConjugateWhich() {
        Edge.makes(Edge.filled(), "conjugate(4, 0, 0)", 0,
            sums -> sums.conjugate(4, 0, 0), 4, 5, 4, 8, -10, 6);
        Edge.makes(Edge.filled(), "conjugate(4, 0, 3)", 0,
            sums -> sums.conjugate(4, 0, 3), 4, 5, -4, -8, -10, 6);
        for (int which : outside(0, 3)) {
            CONJUGATE.refuses(Edge.filled(), 4, 0, which);
            CONJUGATE.refuses(Edge.filled(), 0, 0, which);
        }
    }

    /** ranked: "BAD_ARG if k is not 0 to 5". */
    private static void promise15RankedPlace() {
        // about 0.003, 0.47, -1.17, -2.0, 1.7 and 74.5
        int[] due = {3, 2, 0, 1, 4, 5};
        for (int k = 0; k < 6; k++) {
            int place = k;
            Edge.keeps(Edge.filled(), "ranked(" + k + ")", due[k], sums -> sums.ranked(place));
        }
        for (int k : outside(0, 5)) {
            RANKED.refuses(Edge.filled(), k);
            RANKED.refuses(new RootSums(), k);
        }
    }

    /** multipleFloor: "BAD_ARG if n is not 0 to 5". */
    private static void promise16MultipleFloorTimes() {
        // register 5 is about 74.50009
        int[] due = {0, 74, 149, 223, 298, 372};
        for (int n = 0; n < 6; n++) {
            int times = n;
            Edge.keeps(Edge.filled(), "multipleFloor(5, " + n + ")", due[n],
                sums -> sums.multipleFloor(5, times));
        }
        for (int n : outside(0, 5)) {
            for (int r = 0; r < 6; r++) {
                MULTIPLE_FLOOR.refuses(Edge.filled(), r, n);
                MULTIPLE_FLOOR.refuses(new RootSums(), r, n);
            }
        }
    }

    /**
     * "No call ever throws. A refused call answers the code named and changes nothing.": every
     * list of these arguments, and BAD_ARG for those alone that have one out of its range.
     */
    private static void termsNoCallEverThrows() {
        int[] values = {Integer.MIN_VALUE, -858993459, -31, -30, -1, 0, 1, 3, 4, 5, 6, 30, 31,
            858993460, Integer.MAX_VALUE};
        for (Call call : CALLS) {
            int lists = 1;
            for (int i = 0; i < call.ranges.length; i++) {
                lists *= values.length;
            }
            for (int list = 0; list < lists; list++) {
                int[] arguments = new int[call.ranges.length];
                int rest = list;
                for (int i = 0; i < arguments.length; i++) {
                    arguments[i] = values[rest % values.length];
                    rest /= values.length;
                }
                answeredOrRefused(call, new RootSums(), arguments);
                answeredOrRefused(call, Edge.filled(), arguments);
            }
        }
    }

    private static void answeredOrRefused(Call call, RootSums sums, int... arguments) {
        if (!call.allows(arguments)) {
            call.refuses(sums, arguments);
            return;
        }
        String shown = Edge.shown(call.name, arguments);
        int[] before = Edge.look(sums);
        int got = Edge.answer(sums, shown, it -> call.run.on(it, arguments));
        Due.is(shown + " is refused", got == RootSums.BAD_ARG, false);
        if (got == RootSums.OVER || got == RootSums.NONE) {
            Edge.same(shown, sums, before);
        }
    }
}
