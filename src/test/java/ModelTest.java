import java.math.BigInteger;

/** All promises at once: long mixed runs of calls, each answer beside that of the model. */
public final class ModelTest {
    private static final int RUNS = 1500;
    private static final int CALLS_OF_AN_OBJECT = 512;
    /** A step is one call and the five of looking at the register that it may change. */
    private static final int STEPS = (CALLS_OF_AN_OBJECT - 30) / 6;

    private final RootSums sums = new RootSums();
    private final Model[] models = new Model[6];
    private final int reach;
    private long state;
    private String call;

    /** Each run has its own fixed sequence of arguments, and a reach for the values put. */
    private ModelTest(int run) {
        state = run * 7919L + 12345;
        reach = 1 + run % 30;
        for (int r = 0; r < 6; r++) {
            models[r] = Model.of(0, 0, 0, 0, 1);
        }
    }

    public static void main(String[] args) {
        for (int run = 0; run < RUNS; run++) {
            new ModelTest(run).run(run);
        }
        Due.end();
    }

    private void run(int run) {
        for (int step = 0; step < STEPS; step++) {
            int r = register();
            call = "run " + run + " step " + step + ": register " + r;
            step(r);
            if (isRegister(r)) {
                look(r);
            }
        }
        for (int r = 0; r < 6; r++) {
            look(r);
        }
    }

    private void step(int r) {
        switch (below(24)) {
            case 0, 1, 2, 3, 4, 5 -> put(r);
            case 6, 7 -> whole(r);
            case 8 -> operate("add", r);
            case 9 -> operate("subtract", r);
            case 10 -> operate("multiply", r);
            case 11, 12, 13 -> operate("divide", r);
            case 14 -> conjugate(r);
            case 15 -> compare(r);
            case 16 -> ranked();
            case 17, 18 -> multipleFloor(r);
            case 19 -> inverse(r);
            default -> ask(r);
        }
    }

    private static boolean isRegister(int r) {
        return r >= 0 && r < 6;
    }

    /** A whole number from 0 to bound - 1. */
    private int below(int bound) {
        state = state * 6364136223846793005L + 1442695040888963407L;
        return (int) ((state >>> 33) % bound);
    }

    /** Mostly 0 to 5. */
    private int register() {
        return below(40) == 0 ? (below(2) == 0 ? -1 : 6) : below(6);
    }

    /** Within the reach, and now and then just beyond the limit. */
    private int value() {
        return below(40) == 0 ? (below(2) == 0 ? -31 : 31) : below(2 * reach + 1) - reach;
    }

    private static boolean isValue(int x) {
        return x >= -30 && x <= 30;
    }

    private void look(int r) {
        for (int k = 0; k < 4; k++) {
            Due.is(call + " part " + k + " of " + r, sums.part(r, k), models[r].parts[k].intValueExact());
        }
        Due.is(call + " m of " + r, sums.part(r, 4), models[r].m.intValueExact());
    }

    private void put(int r) {
        int k = below(30) == 0 ? 4 : below(4);
        int x = value();
        int got = sums.put(r, k, x);
        int want = RootSums.BAD_ARG;
        if (isRegister(r) && k < 4 && isValue(x)) {
            models[r] = models[r].with(k, x);
            want = models[r].m.intValueExact();
        }
        Due.is(call + " put " + k + " " + x, got, want);
    }

    private void whole(int r) {
        int x = value();
        int got = sums.whole(r, x);
        int want = RootSums.BAD_ARG;
        if (isRegister(r) && isValue(x)) {
            models[r] = Model.of(x, 0, 0, 0, 1);
            want = 0;
        }
        Due.is(call + " whole " + x, got, want);
    }

    private void operate(String name, int r) {
        int x = register();
        int y = register();
        int got = switch (name) {
            case "add" -> sums.add(r, x, y);
            case "subtract" -> sums.subtract(r, x, y);
            case "multiply" -> sums.multiply(r, x, y);
            default -> sums.divide(r, x, y);
        };
        Due.is(call + " " + name + " " + x + " " + y, got, operated(name, r, x, y));
    }

    private int operated(String name, int r, int x, int y) {
        if (!isRegister(r) || !isRegister(x) || !isRegister(y)) {
            return RootSums.BAD_ARG;
        }
        if (name.equals("divide") && models[y].isZero()) {
            return RootSums.NONE;
        }
        Model result = switch (name) {
            case "add" -> models[x].plus(models[y]);
            case "subtract" -> models[x].minus(models[y]);
            case "multiply" -> models[x].times(models[y]);
            default -> models[x].times(models[y].inverse());
        };
        if (result.isOver()) {
            return RootSums.OVER;
        }
        models[r] = result;
        return 0;
    }

    private void conjugate(int r) {
        int x = register();
        int which = below(6) - 1;
        int got = sums.conjugate(r, x, which);
        int want = RootSums.BAD_ARG;
        if (isRegister(r) && isRegister(x) && which >= 0 && which < 4) {
            models[r] = models[x].conjugate(which);
            want = 0;
        }
        Due.is(call + " conjugate " + x + " " + which, got, want);
    }

    private void compare(int r) {
        int s = register();
        int want = isRegister(r) && isRegister(s)
            ? models[r].minus(models[s]).sign() : RootSums.BAD_ARG;
        Due.is(call + " compare " + s, sums.compare(r, s), want);
    }

    private void ranked() {
        int k = below(8) - 1;
        Due.is(call + " ranked " + k, sums.ranked(k), k >= 0 && k < 6 ? rank(k) : RootSums.BAD_ARG);
    }

    /** Takes the least that is left, k times, and answers the next. */
    private int rank(int k) {
        boolean[] taken = new boolean[6];
        int least = -1;
        for (int turn = 0; turn <= k; turn++) {
            least = -1;
            for (int r = 0; r < 6; r++) {
                if (!taken[r] && (least < 0 || models[r].minus(models[least]).sign() < 0)) {
                    least = r;
                }
            }
            taken[least] = true;
        }
        return least;
    }

    private void multipleFloor(int r) {
        int n = below(8) - 1;
        int want = isRegister(r) && n >= 0 && n <= 5 ? models[r].times(n).floor() : RootSums.BAD_ARG;
        Due.is(call + " multipleFloor " + n, sums.multipleFloor(r, n), want);
    }

    private void inverse(int r) {
        int s = register();
        boolean want = isRegister(r) && isRegister(s)
            && models[r].times(models[s]).same(Model.of(1, 0, 0, 0, 1));
        Due.is(call + " inverse " + s, sums.inverse(r, s), want);
    }

    private void ask(int r) {
        int question = below(5);
        int got = switch (question) {
            case 0 -> sums.sign(r);
            case 1 -> sums.floor(r);
            case 2 -> sums.degree(r);
            case 3 -> sums.positive(r);
            default -> sums.norm(r);
        };
        Due.is(call + " question " + question, got,
            isRegister(r) ? answer(question, models[r]) : RootSums.BAD_ARG);
    }

    private static int answer(int question, Model model) {
        return switch (question) {
            case 0 -> model.sign();
            case 1 -> model.floor();
            case 2 -> model.degree();
            case 3 -> model.positive();
            default -> norm(model);
        };
    }

    private static int norm(Model model) {
        Model norm = model.norm();
        boolean told = norm.m.equals(BigInteger.ONE)
            && norm.parts[0].abs().compareTo(BigInteger.valueOf(900000)) <= 0;
        return told ? norm.parts[0].intValueExact() : RootSums.NONE;
    }
}
