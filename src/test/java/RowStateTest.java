/** Promise 14: rowState. */
public final class RowStateTest {
    public static void main(String[] args) {
        eachState();
        anIdBelowZero();
        anIdOfRowLimitOrMore();
        aFreeId();
        theWholeLifeOfAnId();
        everyIdOfEveryRowLimit();
        nothingChanges();
        Due.end();
    }

    private static void state(CrackedColumn x, int id, int want) {
        Columns.changesNothing(x, "rowState(" + id + ")", want, () -> x.rowState(id));
    }

    private static void eachState() {
        Due.says("14: the state of the id: FREE, ADDED, SETTLED or REMOVED");
        CrackedColumn x = Columns.oneOfEach();
        state(x, 0, CrackedColumn.SETTLED);
        state(x, 1, CrackedColumn.ADDED);
        state(x, 2, CrackedColumn.REMOVED);
        state(x, 3, CrackedColumn.FREE);
    }

    private static void anIdBelowZero() {
        Due.says("14: NONE if id < 0");
        for (int id : Columns.TOO_SMALL) {
            state(Columns.oneOfEach(), id, CrackedColumn.NONE);
            state(Columns.thirtyTwo(5), id, CrackedColumn.NONE);
        }
    }

    private static void anIdOfRowLimitOrMore() {
        Due.says("14: NONE if id >= rowLimit");
        for (int id : Columns.TOO_LARGE) {
            state(Columns.oneOfEach(), id, CrackedColumn.NONE);
            state(Columns.thirtyTwo(5), id, CrackedColumn.NONE);
        }
        state(Columns.oneOfEach(), 6, CrackedColumn.NONE);
        state(Columns.oneOfEach(), 31, CrackedColumn.NONE);
    }

    private static void aFreeId() {
        Due.says("14: FREE (never given out, deleted, freed by select)");
        state(Columns.oneOfEach(), 5, CrackedColumn.FREE);
        CrackedColumn deleted = Columns.added(7);
        deleted.delete(0);
        state(deleted, 0, CrackedColumn.FREE);
        CrackedColumn applied = Columns.removed(7);
        applied.select(7, 8);
        state(applied, 0, CrackedColumn.FREE);
    }

    private static void theWholeLifeOfAnId() {
        Due.says("14: the state of the id (through a row's life, with the value 0)");
        CrackedColumn x = new CrackedColumn(4, 4, 4);
        state(x, 0, CrackedColumn.FREE);
        x.insert(0);
        state(x, 0, CrackedColumn.ADDED);
        x.select(0, 1);
        state(x, 0, CrackedColumn.SETTLED);
        x.delete(0);
        state(x, 0, CrackedColumn.REMOVED);
        x.restore(0);
        state(x, 0, CrackedColumn.SETTLED);
        x.delete(0);
        x.select(0, 1);
        state(x, 0, CrackedColumn.FREE);
        x.insert(0);
        state(x, 0, CrackedColumn.ADDED);
        x.delete(0);
        state(x, 0, CrackedColumn.FREE);
    }

    private static void everyIdOfEveryRowLimit() {
        Due.says("14: NONE if id < 0 or id >= rowLimit (and only then)");
        for (int rowLimit = 4; rowLimit <= 32; rowLimit++) {
            CrackedColumn x = new CrackedColumn(rowLimit, 4, 4);
            for (int id = -1; id <= 33; id++) {
                boolean isId = id >= 0 && id < rowLimit;
                Due.is("rowState(" + id + ")", x.rowState(id), isId ? CrackedColumn.FREE : CrackedColumn.NONE);
            }
        }
    }

    private static void nothingChanges() {
        Due.says("14: nothing changes");
        CrackedColumn x = Columns.oneOfEach();
        for (int id = -1; id <= 6; id++) {
            state(x, id, x.rowState(id));
        }
    }
}
