/** Promise 15: rowValue. */
public final class RowValueTest {
    private static final int MIN = Columns.MIN;
    private static final int MAX = Columns.MAX;

    public static void main(String[] args) {
        eachState();
        aFreeId();
        anIdBelowZero();
        anIdOfRowLimitOrMore();
        aRowOfValueZero();
        theExtremes();
        forgottenByDelete();
        forgottenBySelect();
        keptByARefusedCall();
        Due.end();
    }

    private static void value(CrackedColumn x, int id, int want) {
        Columns.changesNothing(x, "rowValue(" + id + ")", want, () -> x.rowValue(id));
    }

    private static void eachState() {
        Due.says("15: the value of the id if it is ADDED, SETTLED or REMOVED; nothing changes");
        CrackedColumn x = Columns.oneOfEach();
        value(x, 0, 10);
        value(x, 1, 20);
        value(x, 2, 30);
    }

    private static void aFreeId() {
        Due.says("15: 0 if it is FREE");
        value(Columns.oneOfEach(), 3, 0);
        value(Columns.oneOfEach(), 5, 0);
        value(new CrackedColumn(4, 4, 4), 0, 0);
    }

    private static void anIdBelowZero() {
        Due.says("15: 0 if id < 0");
        for (int id : Columns.TOO_SMALL) {
            value(Columns.oneOfEach(), id, 0);
            value(Columns.thirtyTwo(5), id, 0);
        }
    }

    private static void anIdOfRowLimitOrMore() {
        Due.says("15: 0 if id >= rowLimit");
        for (int id : Columns.TOO_LARGE) {
            value(Columns.oneOfEach(), id, 0);
            value(Columns.thirtyTwo(5), id, 0);
        }
        CrackedColumn full = new CrackedColumn(4, 4, 4);
        Columns.insertAll(full, 6, 7, 8, 9, 10);
        value(full, 3, 9);
        value(full, 4, 0);
    }

    private static void aRowOfValueZero() {
        Due.says("15: a row whose value is 0 also gives 0");
        value(Columns.added(0), 0, 0);
        value(Columns.settled(0), 0, 0);
        value(Columns.removed(0), 0, 0);
        Due.is("rowState(0) of ADDED", Columns.added(0).rowState(0), CrackedColumn.ADDED);
        Due.is("rowState(0) of SETTLED", Columns.settled(0).rowState(0), CrackedColumn.SETTLED);
        Due.is("rowState(0) of REMOVED", Columns.removed(0).rowState(0), CrackedColumn.REMOVED);
    }

    private static void theExtremes() {
        Due.says("15: the value of the id (-2147483648, negative ones and 2147483646)");
        for (int v : new int[] {MIN, MIN + 1, -1, 1, MAX - 1}) {
            value(Columns.added(v), 0, v);
            value(Columns.settled(v), 0, v);
            value(Columns.removed(v), 0, v);
        }
    }

    private static void forgottenByDelete() {
        Due.says("15: 0 if it is FREE (the value was forgotten by delete)");
        CrackedColumn x = Columns.added(7, 8);
        x.delete(0);
        value(x, 0, 0);
        value(x, 1, 8);
        x.insert(9);
        value(x, 0, 9);
    }

    private static void forgottenBySelect() {
        Due.says("15: 0 if it is FREE (the value was forgotten by select)");
        CrackedColumn x = Columns.removed(7, 8);
        x.select(7, 8);
        value(x, 0, 0);
        value(x, 1, 8);
        x.insert(9);
        value(x, 0, 9);
    }

    private static void keptByARefusedCall() {
        Due.says("15: the value of the id (a refused insert or delete came)");
        CrackedColumn x = new CrackedColumn(4, 1, 1);
        x.insert(7);
        x.insert(8);
        value(x, 0, 7);
        value(x, 1, 0);
        x.select(7, 8);
        x.insert(8);
        x.delete(0);
        value(x, 0, 7);
        value(x, 1, 8);
    }
}
