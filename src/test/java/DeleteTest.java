/** Promise 3: delete. */
public final class DeleteTest {
    public static void main(String[] args) {
        refusesWhatIsNotLive();
        addedRowsGoAtOnce();
        addedRowsGoEvenWithoutRoom();
        settledRowsBecomeRemoved();
        settledRowsNeedRoom();
        Due.end();
    }

    private static void refusesWhatIsNotLive() {
        CrackedColumn x = Columns.oneOfEach();
        for (int id : Columns.WRONG_INDEXES) {
            Columns.changesNothing(x, "delete(" + id + ")", CrackedColumn.NO_ROW, () -> x.delete(id));
        }
        Columns.changesNothing(x, "delete of rowLimit", CrackedColumn.NO_ROW, () -> x.delete(6));
        Columns.changesNothing(x, "delete of a FREE id", CrackedColumn.NO_ROW, () -> x.delete(5));
        Columns.changesNothing(x, "delete of a REMOVED id", CrackedColumn.NO_ROW, () -> x.delete(2));
        x.delete(0);
        x.insert(1);
        Due.is("pendingCount()", x.pendingCount(), 4);
        Columns.changesNothing(x, "delete of a REMOVED id, pending full", CrackedColumn.NO_ROW, () -> x.delete(2));
        Columns.changesNothing(x, "delete of a FREE id, pending full", CrackedColumn.NO_ROW, () -> x.delete(5));
    }

    private static void addedRowsGoAtOnce() {
        CrackedColumn x = Columns.oneOfEach();
        String rest = Columns.cuts(x) + Columns.pieces(x) + Columns.result(x);
        Due.is("delete(1)", x.delete(1), CrackedColumn.OK);
        Due.is("rowState(1)", x.rowState(1), CrackedColumn.FREE);
        Due.is("rowValue(1)", x.rowValue(1), 0);
        Due.is("pendingCount()", x.pendingCount(), 1);
        Due.is("storedCount()", x.storedCount(), 2);
        Due.is("rowValue(0)", x.rowValue(0), 10);
        Due.is("rowValue(2)", x.rowValue(2), 30);
        Due.same("the rest", Columns.cuts(x) + Columns.pieces(x) + Columns.result(x), rest);
        Columns.changesNothing(x, "delete(1) again", CrackedColumn.NO_ROW, () -> x.delete(1));
    }

    private static void addedRowsGoEvenWithoutRoom() {
        CrackedColumn x = new CrackedColumn(4, 1, 1);
        x.insert(8);
        Due.is("delete(0)", x.delete(0), CrackedColumn.OK);
        Due.is("pendingCount()", x.pendingCount(), 0);
        Due.is("count(8, 9)", x.count(8, 9), 0);
    }

    private static void settledRowsBecomeRemoved() {
        CrackedColumn x = Columns.settled(3, 4, 5);
        x.select(4, 5);
        String rest = Columns.cuts(x) + Columns.pieces(x) + Columns.result(x);
        Due.is("delete(1)", x.delete(1), CrackedColumn.OK);
        Due.is("rowState(1)", x.rowState(1), CrackedColumn.REMOVED);
        Due.is("rowValue(1)", x.rowValue(1), 4);
        Due.is("pendingCount()", x.pendingCount(), 1);
        Due.is("storedCount()", x.storedCount(), 3);
        Due.is("count(3, 6)", x.count(3, 6), 2);
        Due.is("rowState(0)", x.rowState(0), CrackedColumn.SETTLED);
        Due.is("rowState(2)", x.rowState(2), CrackedColumn.SETTLED);
        Due.same("the rest", Columns.cuts(x) + Columns.pieces(x) + Columns.result(x), rest);
    }

    private static void settledRowsNeedRoom() {
        CrackedColumn x = new CrackedColumn(8, 2, 4);
        Columns.insertAll(x, 1, 2);
        x.select(1, 3);
        x.insert(3);
        Due.is("delete(0) with room for one", x.delete(0), CrackedColumn.OK);
        Columns.changesNothing(x, "delete(1) without room", CrackedColumn.PENDING_FULL, () -> x.delete(1));
        Due.is("restore(0)", x.restore(0), CrackedColumn.OK);
        Due.is("delete(1) with room again", x.delete(1), CrackedColumn.OK);
    }
}
