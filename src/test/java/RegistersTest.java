/** Promises 1 to 4: a new object, put, whole, part. */
public final class RegistersTest {
    public static void main(String[] args) {
        promise1NewObject();
        promise2Put();
        promise2PutReduces();
        promise2PutRefuses();
        promise3Whole();
        promise4Part();
        Due.end();
    }

    private static void promise1NewObject() {
        RootSums sums = new RootSums();
        sums.whole(0, 7);
        RootSums other = new RootSums();
        for (int r = 0; r < 6; r++) {
            Due.parts("new", other, r, 0, 0, 0, 0, 1);
        }
        Due.parts("the first object is its own", sums, 0, 7, 0, 0, 0, 1);
    }

    private static void promise2Put() {
        RootSums sums = new RootSums();
        int[] values = {-30, 30, 17, -1};
        for (int r = 0; r < 6; r++) {
            for (int k = 0; k < 4; k++) {
                Due.is("put(" + r + ", " + k + ")", sums.put(r, k, values[k]), 1);
            }
        }
        for (int r = 0; r < 6; r++) {
            Due.parts("put", sums, r, -30, 30, 17, -1, 1);
        }
        Due.is("put(3, 1, -30)", sums.put(3, 1, -30), 1);
        Due.parts("put again", sums, 3, -30, -30, 17, -1, 1);
        Due.parts("beside it", sums, 2, -30, 30, 17, -1, 1);
        Due.parts("beside it", sums, 4, -30, 30, 17, -1, 1);
    }

    private static void promise2PutReduces() {
        RootSums sums = Due.with(5, 4, 8, -10, 6);
        Due.parts("set", sums, 0, 5, 4, 8, -10, 6);
        Due.is("put keeps m", sums.put(0, 0, 7), 6);
        Due.parts("put keeps m", sums, 0, 7, 4, 8, -10, 6);
        Due.is("put halves", sums.put(0, 0, -4), 3);
        Due.parts("put halves", sums, 0, -2, 2, 4, -5, 3);
        Due.is("m stays after", sums.put(0, 3, 9), 3);
        Due.parts("m stays after", sums, 0, -2, 2, 4, 9, 3);
        sums.put(0, 0, 0);
        sums.put(0, 1, 0);
        Due.is("m to 3 with 4 V3 and 9 V6", sums.put(0, 1, 3), 3);
        Due.is("put to thirds", sums.put(0, 2, -30), 1);
        Due.parts("put to thirds", sums, 0, 0, 1, -10, 3, 1);

        RootSums zero = Due.with(1, 0, 0, 0, 30);
        Due.is("put to zero", zero.put(0, 0, 0), 1);
        Due.parts("put to zero", zero, 0, 0, 0, 0, 0, 1);
        RootSums same = Due.with(1, 0, 0, 0, 30);
        Due.is("30 / 30", same.put(0, 0, 30), 1);
        Due.parts("30 / 30", same, 0, 1, 0, 0, 0, 1);
        RootSums root = Due.with(1, 0, 0, 12, 30);
        Due.is("12 V6 / 30", root.put(0, 0, 0), 5);
        Due.parts("12 V6 / 30", root, 0, 0, 0, 0, 2, 5);
    }

    private static void promise2PutRefuses() {
        RootSums sums = Due.with(5, 4, 8, -10, 6);
        for (int r : Due.WRONG_REGISTERS) {
            Due.is("put(" + r + ", 0, 0)", sums.put(r, 0, 0), RootSums.BAD_ARG);
        }
        for (int k : new int[] {-1, 4, 5, Integer.MIN_VALUE, Integer.MAX_VALUE}) {
            Due.is("put(0, " + k + ", 1)", sums.put(0, k, 1), RootSums.BAD_ARG);
        }
        for (int x : new int[] {-31, 31, Integer.MIN_VALUE, Integer.MAX_VALUE}) {
            for (int k = 0; k < 4; k++) {
                Due.is("put(0, " + k + ", " + x + ")", sums.put(0, k, x), RootSums.BAD_ARG);
            }
        }
        Due.parts("refused put", sums, 0, 5, 4, 8, -10, 6);
        Due.parts("refused put", sums, 5, 6, 0, 0, 0, 1);
    }

    private static void promise3Whole() {
        RootSums sums = Due.with(5, 4, 8, -10, 6);
        for (int x : new int[] {-31, 31, Integer.MIN_VALUE, Integer.MAX_VALUE}) {
            Due.is("whole(0, " + x + ")", sums.whole(0, x), RootSums.BAD_ARG);
        }
        for (int r : Due.WRONG_REGISTERS) {
            Due.is("whole(" + r + ", 1)", sums.whole(r, 1), RootSums.BAD_ARG);
        }
        Due.parts("refused whole", sums, 0, 5, 4, 8, -10, 6);
        Due.is("whole(0, -30)", sums.whole(0, -30), 0);
        Due.parts("whole", sums, 0, -30, 0, 0, 0, 1);
        Due.is("whole(0, 30)", sums.whole(0, 30), 0);
        Due.parts("whole", sums, 0, 30, 0, 0, 0, 1);
        Due.is("whole(0, 0)", sums.whole(0, 0), 0);
        Due.parts("whole", sums, 0, 0, 0, 0, 0, 1);
        for (int r = 0; r < 6; r++) {
            Due.is("whole", sums.whole(r, r - 3), 0);
        }
        for (int r = 0; r < 6; r++) {
            Due.parts("whole", sums, r, r - 3, 0, 0, 0, 1);
        }
    }

    private static void promise4Part() {
        RootSums sums = Due.with(1, -2, 3, -4, 29);
        Due.parts("part", sums, 0, 1, -2, 3, -4, 29);
        Due.parts("part", sums, 5, 29, 0, 0, 0, 1);
        for (int k : new int[] {-1, 5, 6, Integer.MIN_VALUE, Integer.MAX_VALUE}) {
            Due.is("part(0, " + k + ")", sums.part(0, k), RootSums.BAD_ARG);
        }
        for (int r : Due.WRONG_REGISTERS) {
            Due.is("part(" + r + ", 0)", sums.part(r, 0), RootSums.BAD_ARG);
            Due.is("part(" + r + ", 4)", sums.part(r, 4), RootSums.BAD_ARG);
        }
    }
}
