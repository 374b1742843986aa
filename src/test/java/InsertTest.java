/** Promise 2: insert. */
public final class InsertTest {
    private static final int MIN = Columns.MIN;
    private static final int MAX = Columns.MAX;

    public static void main(String[] args) {
        givesTheSmallestFreeId();
        takesEveryValueButTheGreatest();
        refusesInTheOrderListed();
        removedIdsAreNotFree();
        leavesTheRestAsItIs();
        Due.end();
    }

    private static void givesTheSmallestFreeId() {
        CrackedColumn x = Columns.added(5, 6, 7, 8);
        x.delete(2);
        x.delete(1);
        Due.is("insert(9)", x.insert(9), 1);
        Due.is("insert(10)", x.insert(10), 2);
        Due.is("insert(11)", x.insert(11), 4);
        Due.is("rowState(1)", x.rowState(1), CrackedColumn.ADDED);
        Due.is("rowValue(1)", x.rowValue(1), 9);
        Due.is("pendingCount()", x.pendingCount(), 5);
        Due.is("storedCount()", x.storedCount(), 0);
    }

    private static void takesEveryValueButTheGreatest() {
        CrackedColumn x = new CrackedColumn(32, 16, 4);
        int[] values = {MIN, MIN + 1, -1, 0, 1, MAX - 1, MIN, 0, MAX - 1};
        for (int i = 0; i < values.length; i++) {
            Due.is("insert(" + values[i] + ")", x.insert(values[i]), i);
            Due.is("rowValue(" + i + ")", x.rowValue(i), values[i]);
        }
        Columns.changesNothing(x, "insert(MAX)", CrackedColumn.BAD_VALUE, () -> x.insert(MAX));
    }

    private static void refusesInTheOrderListed() {
        CrackedColumn both = new CrackedColumn(4, 4, 4);
        Columns.insertAll(both, 1, 2, 3, 4);
        Columns.changesNothing(both, "insert(MAX), all full", CrackedColumn.BAD_VALUE, () -> both.insert(MAX));
        Columns.changesNothing(both, "insert(5), all full", CrackedColumn.FULL, () -> both.insert(5));
        both.select(1, 5);
        Columns.changesNothing(both, "insert(5), ids full", CrackedColumn.FULL, () -> both.insert(5));
        CrackedColumn pending = new CrackedColumn(4, 3, 4);
        Columns.insertAll(pending, 1, 2, 3);
        Columns.changesNothing(pending, "insert(MAX), pending full", CrackedColumn.BAD_VALUE, () -> pending.insert(MAX));
        Columns.changesNothing(pending, "insert(5), pending full", CrackedColumn.PENDING_FULL, () -> pending.insert(5));
        pending.select(2, 3);
        Due.is("insert(5) after select", pending.insert(5), 3);
    }

    private static void removedIdsAreNotFree() {
        CrackedColumn x = new CrackedColumn(4, 4, 4);
        Columns.insertAll(x, 1, 2, 3, 4);
        x.select(1, 5);
        x.delete(2);
        Columns.changesNothing(x, "insert(9)", CrackedColumn.FULL, () -> x.insert(9));
        x.select(3, 4);
        Due.is("insert(9) after its delete was applied", x.insert(9), 2);
        CrackedColumn y = Columns.oneOfEach();
        y.delete(0);
        y.insert(7);
        Columns.changesNothing(y, "insert(8), two of the pending rows removed", CrackedColumn.PENDING_FULL, () -> y.insert(8));
    }

    private static void leavesTheRestAsItIs() {
        CrackedColumn x = Columns.oneOfEach();
        String rest = Columns.cuts(x) + Columns.pieces(x) + Columns.result(x);
        Due.is("insert(15)", x.insert(15), 3);
        Due.same("the rest", Columns.cuts(x) + Columns.pieces(x) + Columns.result(x), rest);
        int[] states = {CrackedColumn.SETTLED, CrackedColumn.ADDED, CrackedColumn.REMOVED, CrackedColumn.ADDED};
        int[] values = {10, 20, 30, 15};
        for (int id = 0; id < states.length; id++) {
            Due.is("rowState(" + id + ")", x.rowState(id), states[id]);
            Due.is("rowValue(" + id + ")", x.rowValue(id), values[id]);
        }
    }
}
