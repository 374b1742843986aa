/** Promise 4: restore. */
public final class RestoreTest {
    private static final int MIN = Columns.MIN;
    private static final int MAX = Columns.MAX;

    public static void main(String[] args) {
        anIdBelowZero();
        anIdOfRowLimitOrMore();
        aFreeId();
        anAddedId();
        aSettledId();
        anIdWhoseDeleteWasApplied();
        aRemovedIdBecomesSettled();
        onePendingRowLess();
        theRowIsLiveAgain();
        pendingFullIsNoHindrance();
        theRestStays();
        Due.end();
    }

    private static void refused(CrackedColumn x, int id) {
        Columns.changesNothing(x, "restore(" + id + ")", CrackedColumn.NO_ROW, () -> x.restore(id));
    }

    private static void anIdBelowZero() {
        Due.says("4.1: id < 0: answers NO_ROW");
        for (int id : Columns.TOO_SMALL) {
            refused(Columns.oneOfEach(), id);
            refused(Columns.removed(1, 2, 3), id);
        }
    }

    private static void anIdOfRowLimitOrMore() {
        Due.says("4.1: id >= rowLimit: answers NO_ROW");
        for (int id : Columns.TOO_LARGE) {
            refused(Columns.oneOfEach(), id);
            refused(Columns.removed(1, 2, 3), id);
        }
        refused(Columns.oneOfEach(), 6);
        refused(Columns.oneOfEach(), 31);
    }

    private static void aFreeId() {
        Due.says("4.1: the id is not REMOVED (FREE): answers NO_ROW");
        refused(new CrackedColumn(4, 4, 4), 0);
        refused(Columns.oneOfEach(), 3);
        CrackedColumn x = Columns.added(7);
        x.delete(0);
        refused(x, 0);
    }

    private static void anAddedId() {
        Due.says("4.1: the id is not REMOVED (ADDED): answers NO_ROW");
        refused(Columns.oneOfEach(), 1);
    }

    private static void aSettledId() {
        Due.says("4.1: the id is not REMOVED (SETTLED): answers NO_ROW");
        refused(Columns.oneOfEach(), 0);
        CrackedColumn x = Columns.removed(7);
        x.restore(0);
        refused(x, 0);
    }

    private static void anIdWhoseDeleteWasApplied() {
        Due.says("What it is: a deleted row can be restored until its delete is applied");
        CrackedColumn x = Columns.removed(30);
        x.select(31, 50);
        x.select(20, 30);
        x.select(31, 30);
        Due.is("restore(0), not touched by select", x.restore(0), CrackedColumn.OK);
        x.delete(0);
        x.select(30, 31);
        refused(x, 0);
    }

    private static void aRemovedIdBecomesSettled() {
        Due.says("4: the id becomes SETTLED with the value it has; answers OK");
        for (int value : new int[] {MIN, -1, 0, 1, MAX - 1}) {
            CrackedColumn x = Columns.removed(3, value);
            Due.is("restore(1)", x.restore(1), CrackedColumn.OK);
            Due.same("rows", Columns.rows(x), "R3 S" + value);
        }
    }

    private static void onePendingRowLess() {
        Due.says("4: there is one pending row less");
        CrackedColumn x = Columns.oneOfEach();
        x.restore(2);
        Due.is("pendingCount()", x.pendingCount(), 1);
    }

    private static void theRowIsLiveAgain() {
        Due.says("4: the row is live again; it stays stored");
        CrackedColumn x = Columns.oneOfEach();
        Due.is("count(30, 31) before", x.count(30, 31), 0);
        x.restore(2);
        Due.is("count(30, 31)", x.count(30, 31), 1);
        Due.is("storedCount()", x.storedCount(), 2);
        Due.is("pieceOf(2)", x.pieceOf(2), 1);
        Due.is("cutBelow(1)", x.cutBelow(1), 2);
        Due.is("select(30, 31)", x.select(30, 31), 1);
        Due.is("delete(2) again", x.delete(2), CrackedColumn.OK);
    }

    private static void pendingFullIsNoHindrance() {
        Due.says("4: otherwise the id becomes SETTLED (also when the number of pending rows is pendingLimit)");
        CrackedColumn x = new CrackedColumn(4, 1, 1);
        x.insert(7);
        x.select(7, 8);
        x.delete(0);
        Due.is("restore(0), pendingLimit 1", x.restore(0), CrackedColumn.OK);
        Due.is("pendingCount()", x.pendingCount(), 0);
        CrackedColumn y = Columns.thirtyTwo(5);
        for (int id = 16; id < 32; id++) {
            y.delete(id);
        }
        Due.is("restore(31), pendingLimit 16", y.restore(31), CrackedColumn.OK);
        Due.is("pendingCount()", y.pendingCount(), 15);
    }

    private static void theRestStays() {
        Due.says("4: all other ids, the cuts and the result stay as they are");
        CrackedColumn x = Columns.oneOfEach();
        x.delete(0);
        String rest = Columns.rest(x);
        x.restore(2);
        Due.same("the rest", Columns.rest(x), rest);
        Due.same("rows", Columns.rows(x), "R10 A20 S30");
    }
}
