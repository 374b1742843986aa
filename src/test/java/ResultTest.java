/** Promises 6 and 7: resultRow and resultSum. */
public final class ResultTest {
    private static final int MIN = Columns.MIN;
    private static final int MAX = Columns.MAX;

    public static void main(String[] args) {
        noneWithoutAResult();
        ascendingIdsWhateverTheValues();
        sumDoesNotWrapAround();
        isASnapshot();
        readingChangesNothing();
        Due.end();
    }

    private static void noneAtEveryIndex(CrackedColumn x) {
        for (int k = -2; k <= 33; k++) {
            Due.is("resultRow(" + k + ")", x.resultRow(k), CrackedColumn.NONE);
        }
        Due.is("resultRow(MIN)", x.resultRow(MIN), CrackedColumn.NONE);
        Due.is("resultRow(MAX)", x.resultRow(MAX), CrackedColumn.NONE);
        Due.is("resultSum()", x.resultSum(), 0);
    }

    private static void noneWithoutAResult() {
        CrackedColumn x = Columns.added(1, 2, 3);
        noneAtEveryIndex(x);
        x.select(3, 1);
        noneAtEveryIndex(x);
        x.select(1, 4);
        x.select(8, 9);
        noneAtEveryIndex(x);
    }

    private static void ascendingIdsWhateverTheValues() {
        CrackedColumn x = Columns.added(9, 1, 7, 50, 3, 5);
        x.select(7, 10);
        x.select(1, 10);
        int[] ids = {0, 1, 2, 4, 5};
        for (int k = 0; k < ids.length; k++) {
            Due.is("resultRow(" + k + ")", x.resultRow(k), ids[k]);
        }
        Due.is("resultRow(5)", x.resultRow(5), CrackedColumn.NONE);
        for (int k : Columns.WRONG_INDEXES) {
            Due.is("resultRow(" + k + ")", x.resultRow(k), CrackedColumn.NONE);
        }
    }

    private static void sumDoesNotWrapAround() {
        CrackedColumn x = new CrackedColumn(32, 16, 1);
        for (int id = 0; id < 32; id++) {
            x.insert(MAX - 1);
            x.select(MAX - 1, MAX);
        }
        Due.is("resultSum() of the greatest", x.resultSum(), 32L * (MAX - 1));
        Due.is("resultRow(31)", x.resultRow(31), 31);
        Due.is("resultRow(32)", x.resultRow(32), CrackedColumn.NONE);
        CrackedColumn y = Columns.added(MIN, MIN, MIN);
        y.select(MIN, 0);
        Due.is("resultSum() of the least", y.resultSum(), 3L * MIN);
    }

    private static void isASnapshot() {
        CrackedColumn x = Columns.settled(1, 2, 3);
        x.select(1, 4);
        String result = "result 0 1 2 sum 6";
        x.delete(0);
        Due.same("after delete", Columns.result(x), result);
        x.restore(0);
        Due.same("after restore", Columns.result(x), result);
        x.insert(2);
        Due.same("after insert", Columns.result(x), result);
        x.forgetCut(0);
        Due.same("after forgetCut", Columns.result(x), result);
        x.select(4, 1);
        Due.same("after a refused select", Columns.result(x), result);
        x.count(2, 3);
        Due.same("after count", Columns.result(x), result);
        x.select(2, 3);
        Due.same("after an accepted select", Columns.result(x), "result 1 3 sum 4");
    }

    private static void readingChangesNothing() {
        CrackedColumn x = Columns.oneOfEach();
        Columns.changesNothing(x, "resultRow(1)", 2, () -> x.resultRow(1));
        Columns.changesNothing(x, "resultSum()", 40, () -> (int) x.resultSum());
    }
}
