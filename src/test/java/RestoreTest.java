/** Promise 4: restore. */
public final class RestoreTest {
    public static void main(String[] args) {
        refusesWhatIsNotRemoved();
        takesBackADelete();
        comesTooLateAfterSelect();
        Due.end();
    }

    private static void refusesWhatIsNotRemoved() {
        CrackedColumn x = Columns.oneOfEach();
        for (int id : Columns.WRONG_INDEXES) {
            Columns.changesNothing(x, "restore(" + id + ")", CrackedColumn.NO_ROW, () -> x.restore(id));
        }
        Columns.changesNothing(x, "restore of rowLimit", CrackedColumn.NO_ROW, () -> x.restore(6));
        Columns.changesNothing(x, "restore of a SETTLED id", CrackedColumn.NO_ROW, () -> x.restore(0));
        Columns.changesNothing(x, "restore of an ADDED id", CrackedColumn.NO_ROW, () -> x.restore(1));
        Columns.changesNothing(x, "restore of a FREE id", CrackedColumn.NO_ROW, () -> x.restore(3));
    }

    private static void takesBackADelete() {
        CrackedColumn x = Columns.oneOfEach();
        String rest = Columns.cuts(x) + Columns.pieces(x) + Columns.result(x);
        Due.is("count(30, 31)", x.count(30, 31), 0);
        Due.is("restore(2)", x.restore(2), CrackedColumn.OK);
        Due.is("rowState(2)", x.rowState(2), CrackedColumn.SETTLED);
        Due.is("rowValue(2)", x.rowValue(2), 30);
        Due.is("pendingCount()", x.pendingCount(), 1);
        Due.is("storedCount()", x.storedCount(), 2);
        Due.is("count(30, 31)", x.count(30, 31), 1);
        Due.is("rowState(1)", x.rowState(1), CrackedColumn.ADDED);
        Due.same("the rest", Columns.cuts(x) + Columns.pieces(x) + Columns.result(x), rest);
        Columns.changesNothing(x, "restore(2) again", CrackedColumn.NO_ROW, () -> x.restore(2));
    }

    private static void comesTooLateAfterSelect() {
        CrackedColumn x = Columns.oneOfEach();
        x.select(31, 50);
        Due.is("restore(2), not touched by select", x.restore(2), CrackedColumn.OK);
        x.delete(2);
        x.select(30, 31);
        Columns.changesNothing(x, "restore(2), its delete applied", CrackedColumn.NO_ROW, () -> x.restore(2));
    }
}
