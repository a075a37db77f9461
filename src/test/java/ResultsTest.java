import java.util.Arrays;

/**
 * Where the document bounds a result: the five of a number just within and just over, on both
 * sides; no common divisor; and no quotient by 0. A refused call leaves every register as it was.
 */
public final class ResultsTest {
    private interface Operation {
        int on(RootSums sums, int r, int x, int y);
    }

    // A row is x, y and what comes of them, five numbers each. In each table the first row for
    // an edge has as a rule no divisor to take out; in the second there is one.
    private static final int[][] ADD_WITHIN = {
        {30, -1, 0, 0, 1,  0, 0, 1, 0, 1,  30, -1, 1, 0, 1},
        {10, -1, 0, 1, 2,  0, 0, 0, -1, 6,  30, -3, 0, 2, 6},
        {-30, 0, 0, 1, 1,  0, -1, 0, 0, 1,  -30, -1, 0, 1, 1},
        {-10, -1, 3, 0, 8,  0, 0, -1, 0, 6,  -30, -3, 5, 0, 24},
        {0, 30, -1, 0, 1,  0, 0, 0, -1, 1,  0, 30, -1, -1, 1},
        {3, 10, 0, 3, 2,  1, 0, 0, 0, 6,  10, 30, 0, 9, 6},
        {0, -30, 0, 1, 1,  -1, 0, 0, 0, 1,  -1, -30, 0, 1, 1},
        {0, -11, 0, -2, 2,  0, 3, 1, 0, 6,  0, -30, 1, -6, 6},
        {0, 0, 30, -1, 1,  0, 1, 0, 0, 1,  0, 1, 30, -1, 1},
        {-2, 0, 10, 3, 4,  0, 0, 0, -1, 6,  -6, 0, 30, 7, 12},
        {0, 0, -30, 1, 1,  0, -1, 0, 0, 1,  0, -1, -30, 1, 1},
        {0, 1, -10, 1, 2,  0, -1, 0, 0, 6,  0, 2, -30, 3, 6},
        {0, 1, 0, 30, 1,  -1, 0, 0, 0, 1,  -1, 1, 0, 30, 1},
        {2, -3, 0, 10, 2,  -1, 0, 0, 0, 6,  5, -9, 0, 30, 6},
        {-1, 0, 0, -30, 1,  0, 0, -1, 0, 1,  -1, 0, -1, -30, 1},
        {-1, 3, 0, -6, 16,  0, 0, 0, -3, 2,  -1, 3, 0, -30, 16},
        {2, 0, 1, 11, 30,  0, 0, 0, -1, 1,  2, 0, 1, -19, 30},
        {0, 0, 1, 1, 15,  -1, 0, 0, 0, 6,  -5, 0, 2, 2, 30},
        {29, -29, 29, -29, 29,  1, -1, 1, -1, 29,  30, -30, 30, -30, 29},
    };

    private static final int[][] ADD_OVER = {
        {30, 1, -1, 0, 1,  1, 0, 0, 0, 1,  31, 1, -1, 0, 1},
        {4, 0, -6, -1, 18,  3, 0, 0, 0, 2,  31, 0, -6, -1, 18},
        {-28, -1, 0, 1, 1,  -3, 0, 0, 0, 1,  -31, -1, 0, 1, 1},
        {-10, 1, 0, -1, 6,  -7, 0, 0, -1, 2,  -31, 1, 0, -4, 6},
        {0, 29, -1, -1, 1,  0, 2, 0, 0, 1,  0, 31, -1, -1, 1},
        {-1, 4, 0, 2, 6,  0, 9, 0, 0, 2,  -1, 31, 0, 2, 6},
        {-1, -30, 0, -1, 1,  0, -1, 0, 0, 1,  -1, -31, 0, -1, 1},
        {4, 1, 0, -1, 16,  -1, -4, 0, 0, 2,  -4, -31, 0, -1, 16},
        {0, 0, 30, -1, 1,  0, -1, 1, 0, 1,  0, -1, 31, -1, 1},
        {-4, 2, -1, 0, 14,  0, 0, 9, 0, 2,  -2, 1, 31, 0, 7},
        {0, -1, -29, 0, 1,  0, 0, -2, 1, 1,  0, -1, -31, 1, 1},
        {0, 1, -10, -2, 2,  0, 1, -1, 2, 6,  0, 4, -31, -4, 6},
        {1, -1, 0, 29, 1,  0, 0, 0, 2, 1,  1, -1, 0, 31, 1},
        {0, -3, -3, 11, 4,  0, 0, -1, -1, 6,  0, -9, -11, 31, 12},
        {-1, 1, 0, -24, 1,  0, 0, 0, -7, 1,  -1, 1, 0, -31, 1},
        {3, 1, 0, -16, 2,  0, 1, 0, 1, 4,  6, 3, 0, -31, 4},
        {-1, 1, 0, 0, 11,  0, 0, -1, 0, 3,  -3, 3, -11, 0, 33},
        {-4, -1, -2, 0, 22,  0, 1, 0, 0, 6,  -6, 4, -3, 0, 33},
    };

    private static final int[][] SUBTRACT_WITHIN = {
        {30, 1, 0, 0, 1,  0, 0, 0, 1, 1,  30, 1, 0, -1, 1},
        {10, 1, 1, 1, 2,  0, -1, 0, 3, 6,  30, 4, 3, 0, 6},
        {-27, 0, 1, 1, 1,  3, 0, 0, 0, 1,  -30, 0, 1, 1, 1},
        {-2, 1, 0, -2, 8,  7, 0, 0, 0, 2,  -30, 1, 0, -2, 8},
        {-1, 26, 0, -1, 1,  0, -4, 0, 0, 1,  -1, 30, 0, -1, 1},
        {-1, 1, 2, 1, 14,  0, -4, 0, -1, 4,  -2, 30, 4, 9, 28},
        {1, -30, 0, 0, 1,  0, 0, 1, 0, 1,  1, -30, -1, 0, 1},
        {2, -6, -1, 0, 2,  1, 0, 0, 0, 10,  9, -30, -5, 0, 10},
        {-1, -1, 28, 0, 1,  0, 0, -2, 0, 1,  -1, -1, 30, 0, 1},
        {-1, 0, 10, 2, 4,  -1, -1, 0, 0, 6,  -1, 2, 30, 6, 12},
        {1, 0, -29, -1, 1,  0, 0, 1, 0, 1,  1, 0, -30, -1, 1},
        {0, 0, -10, -1, 2,  0, 1, 0, 0, 6,  0, -1, -30, -3, 6},
        {0, 0, 1, 30, 1,  0, -1, 0, 0, 1,  0, 1, 1, 30, 1},
        {-1, -1, 0, 10, 2,  0, -2, -1, 0, 6,  -3, -1, 1, 30, 6},
        {1, 0, 0, -29, 1,  0, 0, -1, 1, 1,  1, 0, 1, -30, 1},
        {-1, 0, -2, -15, 2,  1, 0, 0, 0, 4,  -3, 0, -4, -30, 4},
        {10, 3, 3, 0, 30,  1, 0, 0, 0, 1,  -20, 3, 3, 0, 30},
        {0, 1, 0, 2, 10,  0, 0, -1, 0, 6,  0, 3, 5, 6, 30},
        {-29, 29, -29, 29, 29,  1, -1, 1, -1, 29,  -30, 30, -30, 30, 29},
    };

    private static final int[][] SUBTRACT_OVER = {
        {30, 1, 0, -1, 1,  -1, 0, 0, 0, 1,  31, 1, 0, -1, 1},
        {8, 2, 0, -2, 3,  1, 0, 0, 0, 12,  31, 8, 0, -8, 12},
        {-29, 0, -1, 1, 1,  2, 0, 0, 0, 1,  -31, 0, -1, 1, 1},
        {1, 1, 3, -1, 24,  4, 0, 0, 0, 3,  -31, 1, 3, -1, 24},
        {0, 29, 0, -1, 1,  0, -2, -1, 0, 1,  0, 31, 1, -1, 1},
        {-4, 4, 0, 1, 6,  0, -9, 0, 0, 2,  -4, 31, 0, 1, 6},
        {1, -29, 1, 0, 1,  0, 2, 0, 0, 1,  1, -31, 1, 0, 1},
        {-2, 2, 3, 0, 22,  0, 3, 0, 0, 2,  -2, -31, 3, 0, 22},
        {0, 0, 29, 1, 1,  0, -1, -2, 0, 1,  0, 1, 31, 1, 1},
        {-5, -1, 4, 0, 18,  0, 0, -3, 0, 2,  -5, -1, 31, 0, 18},
        {0, -1, -30, 1, 1,  0, 0, 1, 0, 1,  0, -1, -31, 1, 1},
        {0, -1, -3, -1, 21,  0, 0, 4, 0, 3,  0, -1, -31, -1, 21},
        {1, 0, -1, 27, 1,  0, 0, 0, -4, 1,  1, 0, -1, 31, 1},
        {-1, 2, 0, 15, 2,  0, 0, 0, -1, 4,  -2, 4, 0, 31, 4},
        {-1, -1, 0, -27, 1,  0, 0, 0, 4, 1,  -1, -1, 0, -31, 1},
        {0, -2, 3, -3, 28,  0, 1, 0, 2, 2,  0, -16, 3, -31, 28},
        {0, 0, 0, 3, 11,  0, 1, 1, 0, 3,  0, -11, -11, 9, 33},
        {-4, 2, 1, 0, 22,  0, 0, 1, 0, 6,  -6, 3, -4, 0, 33},
    };

    private static final int[][] MULTIPLY_WITHIN = {
        {-1, 0, -1, -5, 1,  0, 0, 0, -1, 1,  30, 3, 0, 1, 1},
        {1, 0, 1, 5, 2,  0, 0, 0, 2, 1,  30, 3, 0, 1, 1},
        {0, 1, -1, -5, 1,  0, 0, 0, 1, 1,  -30, -3, 2, 0, 1},
        {0, -1, -1, -5, 2,  0, 0, 0, 2, 1,  -30, -3, -2, 0, 1},
        {0, 1, 1, 5, 1,  0, 0, 2, 0, 1,  6, 30, 0, 2, 1},
        {2, -1, 5, 0, 2,  0, 0, 0, 4, 1,  0, 30, -4, 4, 1},
        {1, 0, 5, -1, 1,  0, 0, 0, -2, 1,  12, -30, 0, -2, 1},
        {0, 3, -4, -1, 2,  0, 0, 0, 5, 1,  -15, -30, 15, 0, 1},
        {0, -1, -1, 5, 1,  0, 3, 0, 0, 1,  -6, 0, 30, -3, 1},
        {0, -1, -2, 6, 2,  0, 5, 0, 0, 1,  -5, 0, 30, -5, 1},
        {1, -1, 0, -5, 1,  0, 3, 0, 0, 1,  -6, 3, -30, 0, 1},
        {0, 1, 2, -6, 4,  0, 5, 0, 0, 2,  5, 0, -30, 5, 4},
        {-1, 0, -10, -1, 1,  0, -3, 0, 0, 1,  0, 3, 6, 30, 1},
        {-2, 1, 0, 10, 2,  6, 0, 0, 0, 1,  -6, 3, 0, 30, 1},
        {1, 1, 0, -6, 1,  5, 0, 0, 0, 1,  5, 5, 0, -30, 1},
        {0, -2, -12, -1, 4,  0, 5, 0, 0, 2,  -10, 0, -5, -30, 4},
        {1, -1, 0, -1, 30,  0, -1, 0, 0, 1,  2, -1, 2, 0, 30},
        {0, 1, -1, -1, 12,  2, 0, 0, 0, 5,  0, 1, -1, -1, 30},
        {30, 30, -30, -30, 29,  -1, 0, 0, 0, 1,  -30, -30, 30, 30, 29},
    };

    private static final int[][] MULTIPLY_OVER = {
        {1, -1, 2, 5, 1,  1, 0, 0, 1, 1,  31, 5, 0, 6, 1},
        {-1, -4, -1, 0, 2,  2, -8, 0, 0, 1,  31, 0, -1, 4, 1},
        {1, -1, -1, 3, 1,  0, -1, -1, -2, 1,  -31, -4, -3, 0, 1},
        {-1, 0, -2, 5, 2,  2, 2, 0, -2, 1,  -31, 5, 8, 4, 1},
        {-1, 1, -1, -5, 1,  1, 0, -2, 0, 1,  5, 31, 1, -7, 1},
        {0, -3, -8, 1, 2,  0, 0, -1, -4, 3,  0, 31, 8, 1, 2},
        {2, -1, 3, -5, 1,  -1, -1, 2, 0, 1,  18, -31, 11, 0, 1},
        {-1, 1, -10, -1, 2,  -2, 0, 0, 2, 1,  -5, -31, 12, 0, 1},
        {-2, 1, 1, -8, 1,  -1, -2, 0, 0, 1,  -2, 3, 31, 6, 1},
        {0, 11, -2, 1, 1,  2, 0, 0, 3, 2,  9, 2, 31, 1, 1},
        {-1, -15, -1, 1, 1,  0, 0, 1, 1, 1,  3, 0, -31, -16, 1},
        {3, -12, -1, -1, 5,  0, 0, 1, 4, 3,  -9, -5, -31, 0, 5},
        {6, 10, -1, 1, 1,  1, 0, 3, 0, 1,  -3, 19, 17, 31, 1},
        {28, 4, 2, -2, 1,  0, 1, 1, 2, 2,  -5, 17, 20, 31, 1},
        {-1, -1, 17, 3, 1,  1, -2, 0, 0, 1,  3, 1, 5, -31, 1},
        {-17, 3, 1, 0, 2,  0, 0, 2, 4, 1,  3, 6, -5, -31, 1},
        {0, -1, 1, -1, 8,  0, 0, 0, -1, 4,  6, -3, 2, 0, 32},
        {2, 1, -2, 0, 4,  0, 1, 0, 0, 16,  1, 1, 0, -1, 32},
    };

    private static final int[][] DIVIDE_WITHIN = {
        {0, 2, -10, 1, 1,  2, 0, 1, 0, 1,  30, 1, -20, 0, 1},
        {-1, -5, -1, 0, 1,  0, -1, 0, 0, 3,  30, 3, 0, 3, 2},
        {0, -2, -2, 10, 1,  -2, 0, 0, -1, 1,  -30, 1, 0, 10, 1},
        {1, 0, -1, -5, 1,  0, 0, 0, 1, 1,  -30, -3, 0, 1, 6},
        {0, 6, 0, 10, 1,  0, 1, 1, 0, 1,  -12, 30, -20, 6, 1},
        {-1, 0, -1, 5, 1,  0, 0, 1, 0, 2,  -6, 30, -2, 0, 3},
        {2, 6, 1, -6, 1,  -2, 0, -1, 0, 1,  -1, -30, 0, 18, 1},
        {-1, -1, 0, -5, 1,  0, 0, 1, 0, 2,  0, -30, -2, -2, 3},
        {-3, 3, 4, -17, 1,  1, -1, 0, 0, 1,  -3, 0, 30, 13, 1},
        {-1, 1, 0, -5, 1,  0, -2, 0, 0, 3,  -6, 3, 30, 0, 4},
        {-4, 2, 10, 10, 1,  1, -1, 0, 0, 1,  0, 2, -30, -20, 1},
        {1, 0, -4, 3, 1,  0, -1, 0, 0, 5,  0, -5, -30, 20, 2},
        {0, 3, 15, 0, 1,  -1, 2, 0, 0, 1,  12, 3, 15, 30, 7},
        {1, 0, 1, -5, 2,  -1, 0, 0, 0, 12,  -6, 0, -6, 30, 1},
        {1, 0, 0, -6, 1,  5, -1, 0, 0, 1,  5, 1, -12, -30, 23},
        {-2, -1, 10, 0, 1,  0, -1, 0, 0, 6,  6, 6, 0, -30, 1},
        {1, -1, 0, -1, 5,  0, 0, 0, -1, 1,  6, 0, 2, -1, 30},
        {1, 1, -1, 0, 5,  0, 0, 0, 1, 1,  0, -3, 2, 1, 30},
        {30, 30, -30, -30, 29,  -1, 0, 0, 0, 1,  -30, -30, 30, 30, 29},
    };

    private static final int[][] DIVIDE_OVER = {
        {0, -2, 9, -4, 1,  0, 1, 1, 0, 1,  31, -12, 8, -11, 1},
        {5, 3, 0, -6, 3,  2, 0, 0, -2, 5,  31, -3, -6, 1, 6},
        {-3, -2, -9, 1, 1,  0, -1, 1, 0, 1,  -31, 0, -1, -11, 1},
        {-1, 2, -1, 5, 12,  -1, 0, 0, -1, 3,  -31, 5, -5, 6, 20},
        {-2, -11, 1, -3, 1,  -2, 0, 1, 0, 1,  1, 31, 0, 17, 1},
        {-1, 3, -10, -1, 12,  0, 1, 0, -1, 2,  0, 31, -4, 11, 24},
        {-5, 2, 3, 12, 1,  0, 1, -1, 0, 1,  -13, -31, -19, -5, 1},
        {-1, 2, 10, 2, 2,  0, -1, 0, -1, 2,  -8, -31, 0, 11, 4},
        {-7, -1, 5, 13, 1,  -1, 1, 0, 0, 1,  -9, -8, 31, 18, 1},
        {-3, -3, -1, -8, 1,  -1, -2, 0, 0, 7,  9, 3, 31, -6, 1},
        {-11, 2, -1, 15, 1,  -1, -1, 0, 0, 1,  -15, 13, -31, 16, 1},
        {-2, -2, 5, 9, 3,  -1, -2, 0, 0, 1,  6, 2, -31, -1, 21},
        {-2, 17, 1, -16, 1,  -3, 0, 1, 0, 3,  3, -3, -1, 31, 2},
        {5, 11, 5, 14, 7,  -3, 0, -1, 0, 14,  0, 9, -10, -31, 3},
        {0, 1, -2, 0, 1,  -1, 4, 0, 0, 1,  8, 1, -2, -8, 31},
        {0, 1, 2, 0, 1,  1, -4, 0, 0, 3,  -24, -3, -6, -24, 31},
        {1, 0, 0, 0, 1,  7, 3, 0, 0, 1,  7, -3, 0, 0, 31},
    };

    public static void main(String[] args) {
        promise5AddWithin();
        promise5AddOver();
        promise6SubtractWithin();
        promise6SubtractOver();
        promise7MultiplyWithin();
        promise7MultiplyOver();
        promise8DivideWithin();
        promise8DivideOver();
        promise8DivideByZero();
        promise8DivideZero();
        promise2PutWritesWithoutDivisor();
        promise9ConjugateIsNeverOver();
        termsOverIsSeenWithoutDivisor();
        termsMIsPositive();
        termsFarOver();
        Due.end();
    }

    private static int[] five(int[] row, int from) {
        return Arrays.copyOfRange(row, from, from + 5);
    }

    private static RootSums filled(int[] row) {
        return Edge.filled(five(row, 0), five(row, 5));
    }

    /** In a third register, and in the place of each of the two. */
    private static void makesRows(String name, Operation operation, int[]... rows) {
        for (int[] row : rows) {
            for (int r = 0; r < 3; r++) {
                int target = r;
                Edge.makes(filled(row), Edge.shown(name, row), 0,
                    sums -> operation.on(sums, target, 0, 1), r, five(row, 10));
            }
        }
    }

    private static void refusesRows(String name, Operation operation, int[]... rows) {
        for (int[] row : rows) {
            for (int r = 0; r < 3; r++) {
                int target = r;
                Edge.keeps(filled(row), Edge.shown(name, row), RootSums.OVER,
                    sums -> operation.on(sums, target, 0, 1));
            }
        }
    }

    /** The table has a row for each edge: one of the five is there and the others within. */
    private static void reaches(String name, int[][] rows, int edge, int edgeOfM) {
        for (int k = 0; k < 5; k++) {
            int due = k == 4 ? edgeOfM : edge;
            Due.is(name + " table, part " + k + " at " + due, hasRow(rows, k, due), true);
            Due.is(name + " table, part " + k + " at " + -due, k == 4 || hasRow(rows, k, -due), true);
        }
    }

    private static boolean hasRow(int[][] rows, int k, int due) {
        boolean found = false;
        for (int[] row : rows) {
            boolean here = row[10 + k] == due;
            for (int other = 0; other < 5; other++) {
                here &= other == k || Math.abs(row[10 + other]) <= 30;
            }
            found |= here;
        }
        return found;
    }

    private static void promise5AddWithin() {
        makesRows("add", RootSums::add, ADD_WITHIN);
        reaches("add", ADD_WITHIN, 30, 30);
    }

    /** No sum has m = 31 or 32, since neither is the least common multiple of two up to 30. */
    private static void promise5AddOver() {
        refusesRows("add", RootSums::add, ADD_OVER);
        reaches("add", ADD_OVER, 31, 33);
    }

    private static void promise6SubtractWithin() {
        makesRows("subtract", RootSums::subtract, SUBTRACT_WITHIN);
        reaches("subtract", SUBTRACT_WITHIN, 30, 30);
    }

    private static void promise6SubtractOver() {
        refusesRows("subtract", RootSums::subtract, SUBTRACT_OVER);
        reaches("subtract", SUBTRACT_OVER, 31, 33);
    }

    private static void promise7MultiplyWithin() {
        makesRows("multiply", RootSums::multiply, MULTIPLY_WITHIN);
        reaches("multiply", MULTIPLY_WITHIN, 30, 30);
    }

    /** No product has m = 31, which is a prime. */
    private static void promise7MultiplyOver() {
        refusesRows("multiply", RootSums::multiply, MULTIPLY_OVER);
        reaches("multiply", MULTIPLY_OVER, 31, 32);
    }

    private static void promise8DivideWithin() {
        makesRows("divide", RootSums::divide, DIVIDE_WITHIN);
        reaches("divide", DIVIDE_WITHIN, 30, 30);
    }

    private static void promise8DivideOver() {
        refusesRows("divide", RootSums::divide, DIVIDE_OVER);
        reaches("divide", DIVIDE_OVER, 31, 31);
    }

    /** divide: "NONE if y is 0", whatever x is, and in whatever way y came to be 0. */
    private static void promise8DivideByZero() {
        int[] zero = {0, 0, 0, 0, 1};
        int[][] numbers = {{0, 0, 0, 0, 1}, {1, 0, 0, 0, 1}, {-1, 0, 0, 0, 30},
            {30, 30, 30, 30, 1}, {-30, 30, -30, 30, 29}, {17, -19, -24, 21, 30}};
        for (int[] x : numbers) {
            for (int r = 0; r < 6; r++) {
                int target = r;
                Edge.keeps(Edge.filled(x, zero), "divide(" + r + ", 0, 1)", RootSums.NONE,
                    sums -> sums.divide(target, 0, 1));
                Edge.keeps(Edge.filled(x, zero), "divide(" + r + ", 1, 1)", RootSums.NONE,
                    sums -> sums.divide(target, 1, 1));
            }
            RootSums sums = Edge.filled(x, x);
            sums.subtract(1, 0, 1);
            Edge.keeps(sums, "divide by x - x", RootSums.NONE, it -> it.divide(2, 0, 1));
        }
        Edge.keeps(new RootSums(), "divide(0, 1, 2) when new", RootSums.NONE,
            sums -> sums.divide(0, 1, 2));
    }

    /** 0 may be divided, and the least numbers on both sides of 0 may divide. */
    private static void promise8DivideZero() {
        int[] zero = {0, 0, 0, 0, 1};
        int[][] divisors = {{1, 0, 0, 0, 30}, {-1, 0, 0, 0, 30}, {0, 1, 0, 0, 30},
            {0, -1, 0, 0, 30}, {0, 0, 1, 0, 30}, {0, 0, -1, 0, 30}, {0, 0, 0, 1, 30},
            {0, 0, 0, -1, 30}, {17, -19, -24, 21, 30}, {-17, 19, 24, -21, 30}};
        for (int[] y : divisors) {
            Edge.makes(Edge.filled(zero, y), "0 divided", 0, sums -> sums.divide(2, 0, 1), 2, zero);
            Edge.makes(Edge.filled(y, y), "y / y", 0, sums -> sums.divide(2, 0, 1), 2,
                1, 0, 0, 0, 1);
        }
    }

    private static void put(int[] before, int k, int x, int... after) {
        Edge.makes(Edge.filled(before, before), Edge.shown("put", 0, k, x), after[4],
            sums -> sums.put(0, k, x), 0, after);
    }

    /** put: "with m as it was before, and the number is then written without common divisor". */
    private static void promise2PutWritesWithoutDivisor() {
        put(Edge.number(1, 2, 4, 6, 30), 0, 2, 1, 1, 2, 3, 15);
        put(Edge.number(1, 2, 4, 6, 30), 0, 3, 3, 2, 4, 6, 30);
        put(Edge.number(30, 1, 30, -30, 30), 1, 0, 1, 0, 1, -1, 1);
        put(Edge.number(30, 1, 30, -30, 30), 1, -30, 1, -1, 1, -1, 1);
        put(Edge.number(30, 1, 30, -30, 30), 1, 30, 1, 1, 1, -1, 1);
        put(Edge.number(30, 1, 30, -30, 30), 1, 29, 30, 29, 30, -30, 30);
        put(Edge.number(30, 1, 30, -30, 30), 1, 15, 2, 1, 2, -2, 2);
        put(Edge.number(29, 29, 1, -29, 29), 2, 29, 1, 1, 1, -1, 1);
        put(Edge.number(29, 29, 1, -29, 29), 2, -29, 1, 1, -1, -1, 1);
        put(Edge.number(29, 29, 1, -29, 29), 2, 30, 29, 29, 30, -29, 29);
        put(Edge.number(0, 0, 0, 1, 30), 3, 0, 0, 0, 0, 0, 1);
        put(Edge.number(0, 0, 0, 1, 30), 3, 24, 0, 0, 0, 4, 5);
        put(Edge.number(0, 0, 0, 1, 30), 3, -30, 0, 0, 0, -1, 1);
        // m = 1 stays, whatever divides the four
        put(Edge.number(30, 30, 29, 30, 1), 2, 30, 30, 30, 30, 30, 1);
        put(Edge.number(30, 0, 0, 0, 1), 0, 0, 0, 0, 0, 0, 1);
    }

    private static void promise9ConjugateIsNeverOver() {
        int[][] signs = {{1, 1, 1, 1}, {1, -1, 1, -1}, {1, 1, -1, -1}, {1, -1, -1, 1}};
        for (int which = 0; which < 4; which++) {
            int[] number = {-30, 30, -30, 30, 29};
            RootSums sums = Edge.filled(number, number);
            for (int k = 0; k < 4; k++) {
                number[k] *= signs[which][k];
            }
            int chosen = which;
            Edge.makes(sums, "conjugate " + which + " at the limit", 0,
                it -> it.conjugate(5, 0, chosen), 5, number);
        }
    }

    /**
     * "OVER if, written as above with no common divisor, one of the five is beyond": before the
     * divisor is taken out all of these are far beyond.
     */
    private static void termsOverIsSeenWithoutDivisor() {
        makesRows("add", RootSums::add,
            new int[] {30, -30, 30, -29, 30,  30, -30, 30, -29, 30,  30, -30, 30, -29, 15});
        makesRows("subtract", RootSums::subtract,
            new int[] {30, -30, 30, -29, 30,  -30, 30, -30, 29, 30,  30, -30, 30, -29, 15});
        makesRows("multiply", RootSums::multiply,
            new int[] {0, 0, 0, 29, 30,  0, 0, 0, 30, 29,  6, 0, 0, 0, 1});
        makesRows("divide", RootSums::divide,
            new int[] {30, -29, 30, 29, 29,  30, -29, 30, 29, 30,  30, 0, 0, 0, 29});
        // 900 / 841 is left here
        refusesRows("divide", RootSums::divide,
            new int[] {30, 30, 30, 30, 29,  29, 29, 29, 29, 30});
    }

    /** "m from 1 to 30": also where the divisor is negative or its norm is. */
    private static void termsMIsPositive() {
        int[] one = {1, 0, 0, 0, 1};
        int[][] divisors = {{-1, 0, 0, 0, 1}, {-1, 0, 0, 0, 30}, {0, -1, 0, 0, 1}, {1, 1, 1, 0, 1},
            {-1, -1, -1, 0, 1}, {-4, -2, -1, -2, 1}};
        int[][] quotients = {{-1, 0, 0, 0, 1}, {-30, 0, 0, 0, 1}, {0, -1, 0, 0, 2}, {2, 1, 0, -1, 4},
            {-2, -1, 0, 1, 4}, {-28, -22, 19, 10, 23}};
        for (int i = 0; i < divisors.length; i++) {
            Edge.makes(Edge.filled(one, divisors[i]), "1 / divisor " + i, 0,
                sums -> sums.divide(3, 0, 1), 3, quotients[i]);
        }
    }

    /** The furthest that results can be: no wrap-around brings them back within. */
    private static void termsFarOver() {
        int[] great = {30, 30, 30, 30, 1};
        int[] small = {17, -19, -24, 21, 30};
        int[] mixed = {-30, 30, 29, -30, 29};
        for (int[] x : new int[][] {great, small, mixed}) {
            for (int[] y : new int[][] {great, small, mixed}) {
                Edge.keeps(Edge.filled(x, y), "multiply far over", RootSums.OVER,
                    sums -> sums.multiply(2, 0, 1));
            }
        }
        Edge.keeps(Edge.filled(great, small), "great / small", RootSums.OVER,
            sums -> sums.divide(2, 0, 1));
        Edge.keeps(Edge.filled(mixed, small), "mixed / small", RootSums.OVER,
            sums -> sums.divide(2, 0, 1));
        Edge.keeps(Edge.filled(small, mixed), "small / mixed", RootSums.OVER,
            sums -> sums.divide(2, 0, 1));
        Edge.keeps(Edge.filled(great, great), "great + great", RootSums.OVER,
            sums -> sums.add(2, 0, 1));
        Edge.keeps(Edge.filled(small, mixed), "small + mixed", RootSums.OVER,
            sums -> sums.add(2, 0, 1));
        Edge.keeps(Edge.filled(mixed, great), "mixed - great", RootSums.OVER,
            sums -> sums.subtract(2, 0, 1));
    }
}
