/** All promises: long mixed runs of calls, each answer compared with a model's, and all that can be seen after it. */
public final class ModelTest {
    private static final int MIN = Columns.MIN;
    private static final int MAX = Columns.MAX;
    private static final int RUNS = 300;
    private static final int CALLS = 250;
    private static final int[] VALUES = {MIN, MIN + 1, -3, -2, -1, 0, 1, 2, 3, 4, 5, 6, 7, 8, 9, MAX - 2, MAX - 1, MAX};
    private static final int[] LIMITS = {MIN, -1, 0, 1, 2, 3, 4, 5, 7, 8, 12, 15, 16, 17, 31, 32, 33, MAX};

    private long seed;
    private final Pair pair;

    private ModelTest(int run) {
        // The seed is the run's number, so that every run of the test makes the same calls.
        seed = run;
        pair = new Pair("run " + run, oneOf(LIMITS), oneOf(LIMITS), oneOf(LIMITS));
    }

    public static void main(String[] args) {
        for (int run = 0; run < RUNS && Due.wrongSoFar() == 0; run++) {
            ModelTest test = new ModelTest(run);
            test.pair.compareUpTo(33);
            for (int call = 0; call < CALLS && Due.wrongSoFar() == 0; call++) {
                test.pair.make(test.nextCall());
                test.pair.compareUpTo(33);
            }
        }
        Due.end();
    }

    private int next(int bound) {
        seed = seed * 6364136223846793005L + 1442695040888963407L;
        return (int) ((seed >>> 33) % bound);
    }

    private int oneOf(int[] choices) {
        return choices[next(choices.length)];
    }

    private int id() {
        return next(20) == 0 ? oneOf(LIMITS) : next(34) - 1;
    }

    private Pair.Call nextCall() {
        int kind = next(16);
        if (kind < 6) {
            return new Pair.Call(Pair.Method.INSERT, oneOf(VALUES), 0);
        }
        if (kind < 9) {
            return new Pair.Call(Pair.Method.DELETE, id(), 0);
        }
        if (kind < 11) {
            return new Pair.Call(Pair.Method.RESTORE, id(), 0);
        }
        if (kind < 14) {
            return new Pair.Call(Pair.Method.SELECT, oneOf(VALUES), oneOf(VALUES));
        }
        if (kind < 15) {
            return new Pair.Call(Pair.Method.FORGET_CUT, next(19) - 1, 0);
        }
        return new Pair.Call(Pair.Method.COUNT, oneOf(VALUES), oneOf(VALUES));
    }
}
