/** All promises: long mixed runs of calls, each answer compared with a model's, and all that can be seen after it. */
public final class ModelTest {
    private static final int MIN = Integer.MIN_VALUE;
    private static final int MAX = Integer.MAX_VALUE;
    private static final int RUNS = 300;
    private static final int CALLS = 250;
    private static final int[] VALUES = {MIN, MIN + 1, -3, -2, -1, 0, 1, 2, 3, 4, 5, 6, 7, 8, 9, MAX - 2, MAX - 1, MAX};
    private static final int[] LIMITS = {MIN, -1, 0, 1, 2, 3, 4, 5, 7, 8, 12, 15, 16, 17, 31, 32, 33, MAX};

    private long seed;
    private final CrackedColumn column;
    private final Model model;
    private String last;

    private ModelTest(int run) {
        // The seed is the run's number, so that every run of the test makes the same calls.
        seed = run;
        int rowLimit = oneOf(LIMITS);
        int pendingLimit = oneOf(LIMITS);
        int cutLimit = oneOf(LIMITS);
        column = new CrackedColumn(rowLimit, pendingLimit, cutLimit);
        model = new Model(rowLimit, pendingLimit, cutLimit);
        last = "run " + run + ": new CrackedColumn(" + rowLimit + ", " + pendingLimit + ", " + cutLimit + ")";
    }

    public static void main(String[] args) {
        for (int run = 0; run < RUNS && Due.wrongSoFar() == 0; run++) {
            ModelTest test = new ModelTest(run);
            test.compareAll();
            for (int call = 0; call < CALLS && Due.wrongSoFar() == 0; call++) {
                test.callOnce();
                test.compareAll();
            }
        }
        Due.end();
    }

    private int next(int bound) {
        seed = seed * 6364136223846793005L + 1442695040888963407L;
        return (int) ((seed >>> 33) % bound);
    }

    private int oneOf(int[] choices) {
        return choices[next(choices.length)];
    }

    private int id() {
        return next(20) == 0 ? oneOf(LIMITS) : next(34) - 1;
    }

    private void due(String call, long got, long want) {
        last = last + "\n  " + call;
        Due.is(last, got, want);
    }

    private void callOnce() {
        int kind = next(16);
        int a = oneOf(VALUES);
        int b = oneOf(VALUES);
        int id = id();
        int k = next(19) - 1;
        if (kind < 6) {
            due("insert(" + a + ")", column.insert(a), model.insert(a));
        } else if (kind < 9) {
            due("delete(" + id + ")", column.delete(id), model.delete(id));
        } else if (kind < 11) {
            due("restore(" + id + ")", column.restore(id), model.restore(id));
        } else if (kind < 14) {
            due("select(" + a + ", " + b + ")", column.select(a, b), model.select(a, b));
        } else if (kind < 15) {
            due("forgetCut(" + k + ")", column.forgetCut(k), model.forgetCut(k));
        } else {
            due("count(" + a + ", " + b + ")", column.count(a, b), model.count(a, b));
        }
    }

    private void compareAll() {
        for (int i = -1; i <= 33; i++) {
            compareAt(i);
        }
        for (int i : new int[] {MIN, MAX}) {
            compareAt(i);
        }
        Due.is(last + "\n  resultSum()", column.resultSum(), model.resultSum());
        Due.is(last + "\n  cutCount()", column.cutCount(), model.cutCount());
        Due.is(last + "\n  storedCount()", column.storedCount(), model.storedCount());
        Due.is(last + "\n  pendingCount()", column.pendingCount(), model.pendingCount());
    }

    private void compareAt(int i) {
        seen("rowState", i, column.rowState(i), model.rowState(i));
        seen("rowValue", i, column.rowValue(i), model.rowValue(i));
        seen("pieceOf", i, column.pieceOf(i), model.pieceOf(i));
        seen("resultRow", i, column.resultRow(i), model.resultRow(i));
        seen("cutValue", i, column.cutValue(i), model.cutValue(i));
        seen("cutBelow", i, column.cutBelow(i), model.cutBelow(i));
    }

    private void seen(String method, int i, int got, int want) {
        // The text is long and made only where it is needed.
        Due.is(got == want ? method : last + "\n  " + method + "(" + i + ")", got, want);
    }
}
