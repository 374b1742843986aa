/** Promise 2: insert. */
public final class InsertTest {
    private static final int MIN = Columns.MIN;
    private static final int MAX = Columns.MAX;

    public static void main(String[] args) {
        theGreatestValueIsRefused();
        everyOtherValueIsAllowed();
        fullOfAddedRows();
        fullOfSettledRows();
        removedIdsAreNotFree();
        pendingFullOfAddedRows();
        pendingFullOfRemovedRows();
        pendingFullOfBoth();
        pendingLimitOfOne();
        badValueComesBeforeFull();
        badValueComesBeforePendingFull();
        badValueComesBeforeBoth();
        fullComesBeforePendingFull();
        theSmallestFreeIdIsGiven();
        theLastIdIsGiven();
        oneOfPendingRowsMore();
        theRestStays();
        anIdFreedBySelectIsGivenAgain();
        equalValuesAreAllowed();
        Due.end();
    }

    private static void refused(CrackedColumn x, int value, int answer) {
        Columns.changesNothing(x, "insert(" + value + ")", answer, () -> x.insert(value));
    }

    private static void theGreatestValueIsRefused() {
        Due.says("2.1: value is 2147483647: answers BAD_VALUE");
        refused(new CrackedColumn(4, 4, 4), MAX, CrackedColumn.BAD_VALUE);
        refused(Columns.oneOfEach(), MAX, CrackedColumn.BAD_VALUE);
    }

    private static void everyOtherValueIsAllowed() {
        Due.says("2.1: every other int is allowed, -2147483648 included");
        CrackedColumn x = new CrackedColumn(32, 16, 4);
        int[] values = {MIN, MIN + 1, -2, -1, 0, 1, 2, MAX - 2, MAX - 1};
        for (int i = 0; i < values.length; i++) {
            Due.is("insert(" + values[i] + ")", x.insert(values[i]), i);
            Due.is("rowState(" + i + ")", x.rowState(i), CrackedColumn.ADDED);
            Due.is("rowValue(" + i + ")", x.rowValue(i), values[i]);
        }
    }

    private static void fullOfAddedRows() {
        Due.says("2.2: no id is FREE: answers FULL (all ADDED)");
        CrackedColumn x = new CrackedColumn(4, 5, 4);
        Columns.insertAll(x, 1, 2, 3, 4);
        refused(x, 5, CrackedColumn.FULL);
        x.delete(2);
        Due.is("insert(5) with room again", x.insert(5), 2);
    }

    private static void fullOfSettledRows() {
        Due.says("2.2: no id is FREE: answers FULL (all SETTLED)");
        refused(Columns.thirtyTwo(7), 5, CrackedColumn.FULL);
        refused(Columns.thirtyTwo(0), 0, CrackedColumn.FULL);
    }

    private static void removedIdsAreNotFree() {
        Due.says("2.2: REMOVED ids are not FREE");
        CrackedColumn x = new CrackedColumn(4, 5, 4);
        Columns.insertAll(x, 1, 2, 3, 4);
        x.select(1, 5);
        x.delete(2);
        refused(x, 9, CrackedColumn.FULL);
        x.delete(0);
        x.delete(1);
        x.delete(3);
        Due.same("all removed", Columns.rows(x), "R1 R2 R3 R4");
        refused(x, 9, CrackedColumn.FULL);
        x.select(3, 4);
        Due.is("insert(9) after a delete was applied", x.insert(9), 2);
    }

    private static void pendingFullOfAddedRows() {
        Due.says("2.3: the number of pending rows is pendingLimit: answers PENDING_FULL (all ADDED)");
        CrackedColumn x = new CrackedColumn(32, 16, 4);
        for (int i = 0; i < 16; i++) {
            Due.is("insert(" + i + ")", x.insert(i), i);
        }
        refused(x, 16, CrackedColumn.PENDING_FULL);
        x.select(3, 4);
        Due.is("insert(16) after an insert was applied", x.insert(16), 16);
        refused(x, 17, CrackedColumn.PENDING_FULL);
        x.delete(0);
        Due.is("insert(17) after an insert was deleted", x.insert(17), 0);
    }

    private static void pendingFullOfRemovedRows() {
        Due.says("2.3: the number of pending rows is pendingLimit: answers PENDING_FULL (all REMOVED)");
        CrackedColumn x = new CrackedColumn(6, 3, 4);
        Columns.insertAll(x, 1, 2, 3);
        x.select(1, 4);
        x.delete(0);
        x.delete(1);
        x.delete(2);
        refused(x, 9, CrackedColumn.PENDING_FULL);
        x.restore(1);
        Due.is("insert(9) after a restore", x.insert(9), 3);
        refused(x, 10, CrackedColumn.PENDING_FULL);
    }

    private static void pendingFullOfBoth() {
        Due.says("2.3: the number of pending rows is pendingLimit: answers PENDING_FULL (ADDED and REMOVED)");
        CrackedColumn x = Columns.oneOfEach();
        x.delete(0);
        Due.is("insert(7), one below pendingLimit", x.insert(7), 3);
        Due.same("rows", Columns.rows(x), "R10 A20 R30 A7");
        refused(x, 8, CrackedColumn.PENDING_FULL);
    }

    private static void pendingLimitOfOne() {
        Due.says("2.3: the number of pending rows is pendingLimit: answers PENDING_FULL (pendingLimit is 1)");
        CrackedColumn x = new CrackedColumn(4, 1, 1);
        Due.is("insert(1)", x.insert(1), 0);
        refused(x, 2, CrackedColumn.PENDING_FULL);
        x.select(1, 2);
        Due.is("insert(2)", x.insert(2), 1);
        refused(x, 3, CrackedColumn.PENDING_FULL);
    }

    private static void badValueComesBeforeFull() {
        Due.says("2: conditions are taken in the order listed (1 before 2)");
        refused(Columns.thirtyTwo(7), MAX, CrackedColumn.BAD_VALUE);
    }

    private static void badValueComesBeforePendingFull() {
        Due.says("2: conditions are taken in the order listed (1 before 3)");
        CrackedColumn x = new CrackedColumn(4, 1, 1);
        x.insert(1);
        refused(x, MAX, CrackedColumn.BAD_VALUE);
    }

    private static void badValueComesBeforeBoth() {
        Due.says("2: conditions are taken in the order listed (1 before 2 and 3)");
        CrackedColumn x = new CrackedColumn(4, 4, 4);
        Columns.insertAll(x, 1, 2, 3, 4);
        refused(x, MAX, CrackedColumn.BAD_VALUE);
    }

    private static void fullComesBeforePendingFull() {
        Due.says("2: conditions are taken in the order listed (2 before 3)");
        CrackedColumn x = new CrackedColumn(4, 4, 4);
        Columns.insertAll(x, 1, 2, 3, 4);
        refused(x, 5, CrackedColumn.FULL);
        CrackedColumn y = new CrackedColumn(4, 1, 4);
        for (int value = 1; value <= 4; value++) {
            y.insert(value);
            y.select(1, 5);
        }
        y.delete(3);
        Due.is("pendingCount()", y.pendingCount(), 1);
        refused(y, 5, CrackedColumn.FULL);
    }

    private static void theSmallestFreeIdIsGiven() {
        Due.says("2: the smallest FREE id becomes ADDED with this value, and that id is answered");
        CrackedColumn x = Columns.added(5, 6, 7, 8);
        x.delete(2);
        x.delete(0);
        Due.is("insert(9)", x.insert(9), 0);
        Due.is("insert(10)", x.insert(10), 2);
        Due.is("insert(11)", x.insert(11), 4);
        Due.same("rows", Columns.rows(x), "A9 A6 A10 A8 A11");
    }

    private static void theLastIdIsGiven() {
        Due.says("2: that id (0 to rowLimit - 1) is answered");
        CrackedColumn x = new CrackedColumn(32, 1, 1);
        for (int id = 0; id < 32; id++) {
            Due.is("insert(" + id + ")", x.insert(id), id);
            x.select(id, id + 1);
        }
        CrackedColumn y = new CrackedColumn(5, 16, 1);
        for (int id = 0; id < 5; id++) {
            Due.is("insert(" + id + ")", y.insert(id), id);
        }
    }

    private static void oneOfPendingRowsMore() {
        Due.says("2: there is one pending row more");
        CrackedColumn x = Columns.oneOfEach();
        x.insert(1);
        Due.is("pendingCount()", x.pendingCount(), 3);
        Due.is("storedCount()", x.storedCount(), 2);
        x.insert(1);
        Due.is("pendingCount()", x.pendingCount(), 4);
        Due.is("storedCount()", x.storedCount(), 2);
    }

    private static void theRestStays() {
        Due.says("2: all other ids, the stored rows, the cuts and the result stay as they are");
        CrackedColumn x = Columns.oneOfEach();
        String rest = Columns.rest(x);
        // The value stands inside the range of the latest select, but that select is over.
        Due.is("insert(15)", x.insert(15), 3);
        Due.same("the rest", Columns.rest(x), rest);
        Due.same("rows", Columns.rows(x), "S10 A20 R30 A15");
        Due.same("pieces", Columns.pieces(x, 5), "pieces 1 -1 1 -1 -1");
    }

    private static void anIdFreedBySelectIsGivenAgain() {
        Due.says("2: the result stays as it is (an id that the latest select has freed is given out)");
        CrackedColumn x = Columns.settled(1, 2, 3);
        x.delete(1);
        x.select(1, 4);
        Due.is("insert(2)", x.insert(2), 1);
        Due.same("result", Columns.result(x), "result 0 2 sum 4");
    }

    private static void equalValuesAreAllowed() {
        Due.says("2: a value that other rows already have is allowed");
        CrackedColumn x = Columns.oneOfEach();
        Due.is("insert(10), as a SETTLED row", x.insert(10), 3);
        Due.is("insert(30), as a REMOVED row", x.insert(30), 4);
        CrackedColumn y = Columns.added(4, 4);
        Due.is("insert(4), as ADDED rows", y.insert(4), 2);
    }
}
