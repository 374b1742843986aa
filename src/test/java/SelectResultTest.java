/** Promise 5, step c: the result of a select, and its answer. */
public final class SelectResultTest {
    private static final int MIN = Columns.MIN;
    private static final int MAX = Columns.MAX;

    public static void main(String[] args) {
        settledRowsAreInTheResult();
        rowsJustAddedAreInTheResult();
        removedRowsAreNot();
        restoredRowsAre();
        rowsOutsideAreNot();
        allOfTheResultAreSettled();
        theResultIsReplacedEntirely();
        theAnswerIsTheNumberOfIds();
        anEmptyResultReplacesToo();
        freedIdsAreNoRows();
        Due.end();
    }

    private static void selects(CrackedColumn x, int lo, int hi, int answer, String result) {
        Due.is("select(" + lo + ", " + hi + ")", x.select(lo, hi), answer);
        Due.same("result", Columns.result(x), result);
    }

    private static void settledRowsAreInTheResult() {
        Due.says("5c: the set of all ids that are now live with a value inside (SETTLED before)");
        selects(Columns.settled(1, 5, 3), 1, 5, 2, "result 0 2 sum 4");
    }

    private static void rowsJustAddedAreInTheResult() {
        Due.says("5c: the set of all ids that are now live with a value inside (ADDED before)");
        selects(Columns.added(1, 5, 3), 1, 5, 2, "result 0 2 sum 4");
    }

    private static void removedRowsAreNot() {
        Due.says("5c: the set of all ids that are now live (not those whose delete was just applied)");
        CrackedColumn x = Columns.settled(1, 2, 3);
        x.delete(1);
        selects(x, 1, 4, 2, "result 0 2 sum 4");
    }

    private static void restoredRowsAre() {
        Due.says("5c: the set of all ids that are now live (those whose delete was taken back)");
        CrackedColumn x = Columns.removed(1, 2, 3);
        x.restore(1);
        selects(x, 1, 4, 1, "result 1 sum 2");
    }

    private static void rowsOutsideAreNot() {
        Due.says("5c: with a value inside lo, hi");
        CrackedColumn x = Columns.settled(MIN, -1, 0, 1, MAX - 1);
        selects(x, -1, 1, 2, "result 1 2 sum -1");
        selects(x, MIN, 0, 2, "result 0 1 sum -2147483649");
        selects(x, 0, MAX, 3, "result 2 3 4 sum 2147483647");
        selects(x, MIN, MAX, 5, "result 0 1 2 3 4 sum -2");
        selects(x, MIN + 1, MAX - 1, 3, "result 1 2 3 sum 0");
    }

    private static void allOfTheResultAreSettled() {
        Due.says("5c: all of these are SETTLED");
        CrackedColumn x = Columns.removed(1, 2, 3);
        x.restore(2);
        Columns.insertAll(x, 1, 9, 3);
        selects(x, 1, 9, 3, "result 2 3 5 sum 7");
        for (int k = 0; k < 3; k++) {
            Due.is("state of result row " + k, x.rowState(x.resultRow(k)), CrackedColumn.SETTLED);
        }
    }

    private static void theResultIsReplacedEntirely() {
        Due.says("5c: the result before is replaced entirely");
        CrackedColumn x = Columns.settled(1, 2, 3, 4, 5);
        selects(x, 1, 6, 5, "result 0 1 2 3 4 sum 15");
        selects(x, 2, 4, 2, "result 1 2 sum 5");
        selects(x, 4, 6, 2, "result 3 4 sum 9");
        selects(x, 1, 6, 5, "result 0 1 2 3 4 sum 15");
    }

    private static void theAnswerIsTheNumberOfIds() {
        Due.says("5: answers the number of ids in the result (0 or more)");
        Due.is("select of no rows", new CrackedColumn(4, 4, 4).select(MIN, MAX), 0);
        Due.is("select of one row", Columns.settled(5).select(MIN, MAX), 1);
        Due.is("select of sixteen added rows",
            Columns.added(1, 2, 3, 4, 5, 6, 7, 8, 9, 10, 11, 12, 13, 14, 15, 16).select(MIN, MAX), 16);
        Due.is("select of 32 rows", Columns.thirtyTwo(5).select(MIN, MAX), 32);
        Due.is("select of equal values", Columns.settled(5, 5, 5).select(5, 6), 3);
    }

    private static void anEmptyResultReplacesToo() {
        Due.says("5: if it is 0, the result is the empty set and its sum is 0");
        CrackedColumn x = Columns.settled(1, 2);
        selects(x, 1, 3, 2, "result 0 1 sum 3");
        selects(x, 8, 9, 0, "result sum 0");
        CrackedColumn y = Columns.removed(1, 2);
        selects(y, 1, 3, 0, "result sum 0");
    }

    private static void freedIdsAreNoRows() {
        Due.says("5c: ids that are now live (an id that is FREE has no value, not the value 0)");
        CrackedColumn x = Columns.removed(5, 0);
        selects(x, -10, 10, 0, "result sum 0");
        selects(x, -10, 10, 0, "result sum 0");
        selects(new CrackedColumn(4, 4, 4), 0, 1, 0, "result sum 0");
    }
}
