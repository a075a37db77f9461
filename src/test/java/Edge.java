import java.util.Arrays;
import java.util.function.ToIntFunction;

/** What the tests of boundary cases need: one call, its answer, and every register after it. */
final class Edge {
    /** How often a part is read in one look at an object. */
    static final int LOOK = 30;

    private Edge() {
    }

    /** An object with a different number in each register, x in 0 and y in 1; made by 38 calls. */
    static RootSums filled(int[] x, int[] y) {
        RootSums sums = new RootSums();
        Due.set(sums, 0, x);
        Due.set(sums, 1, y);
        Due.set(sums, 2, 30, -30, 30, -30, 29);
        Due.set(sums, 3, -29, 30, 0, -30, 30);
        Due.set(sums, 4, 7, 0, -7, 11, 13);
        sums.put(5, 1, 30);
        sums.put(5, 2, -30);
        sums.put(5, 3, 29);
        return sums;
    }

    /** An object of that kind where no register is special. */
    static RootSums filled() {
        return filled(new int[] {5, 4, 8, -10, 6}, new int[] {-3, 1, 0, 2, 7});
    }

    /** Every part of every register. */
    static int[] look(RootSums sums) {
        int[] parts = new int[LOOK];
        for (int i = 0; i < LOOK; i++) {
            parts[i] = sums.part(i / 5, i % 5);
        }
        return parts;
    }

    /** The answer of a call; one that throws counts as wrong. */
    static int answer(RootSums sums, String call, ToIntFunction<RootSums> run) {
        try {
            return run.applyAsInt(sums);
        } catch (Throwable thrown) {
            Due.is(call + " threw " + thrown + ", and so", true, false);
            return 0;
        }
    }

    /** The call answers want, and every register is as it was before. */
    static void keeps(RootSums sums, String call, int want, ToIntFunction<RootSums> run) {
        int[] before = look(sums);
        Due.is(call, answer(sums, call, run), want);
        same(call, sums, before);
    }

    /** The call answers want, register r becomes the number, and every other one is as before. */
    static void makes(RootSums sums, String call, int want, ToIntFunction<RootSums> run,
            int r, int... number) {
        int[] due = look(sums);
        System.arraycopy(number, 0, due, r * 5, 5);
        Due.is(call, answer(sums, call, run), want);
        same(call, sums, due);
    }

    static void same(String call, RootSums sums, int[] due) {
        int[] after = look(sums);
        for (int i = 0; i < LOOK; i++) {
            Due.is("after " + call + ": part(" + i / 5 + ", " + i % 5 + ")", after[i], due[i]);
        }
    }

    static int[] number(int... parts) {
        return parts;
    }

    /** How a call is shown: its name and its arguments. */
    static String shown(String name, int... arguments) {
        String list = Arrays.toString(arguments);
        return name + "(" + list.substring(1, list.length() - 1) + ")";
    }
}
