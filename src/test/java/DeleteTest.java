/** Promise 3: delete. */
public final class DeleteTest {
    private static final int MIN = Columns.MIN;
    private static final int MAX = Columns.MAX;

    public static void main(String[] args) {
        anIdBelowZero();
        anIdOfRowLimitOrMore();
        aFreeId();
        aRemovedId();
        noRowComesBeforePendingFull();
        anAddedIdIsFreeAtOnce();
        anAddedIdIsNeverRefused();
        anAddedIdLeavesTheRest();
        aSettledIdWithoutRoom();
        aSettledIdWithTheLastRoom();
        aSettledIdBecomesRemoved();
        aRemovedRowIsStillStored();
        aSettledIdLeavesTheRest();
        Due.end();
    }

    private static void refused(CrackedColumn x, int id, int answer) {
        Columns.changesNothing(x, "delete(" + id + ")", answer, () -> x.delete(id));
    }

    private static void anIdBelowZero() {
        Due.says("3.1: id < 0: answers NO_ROW; nothing changes");
        for (int id : Columns.TOO_SMALL) {
            refused(Columns.oneOfEach(), id, CrackedColumn.NO_ROW);
            refused(Columns.thirtyTwo(5), id, CrackedColumn.NO_ROW);
        }
    }

    private static void anIdOfRowLimitOrMore() {
        Due.says("3.1: id >= rowLimit: answers NO_ROW; nothing changes");
        for (int id : Columns.TOO_LARGE) {
            refused(Columns.oneOfEach(), id, CrackedColumn.NO_ROW);
            refused(Columns.thirtyTwo(5), id, CrackedColumn.NO_ROW);
        }
        refused(Columns.oneOfEach(), 6, CrackedColumn.NO_ROW);
        refused(Columns.oneOfEach(), 31, CrackedColumn.NO_ROW);
    }

    private static void aFreeId() {
        Due.says("3.1: the id is FREE: answers NO_ROW; nothing changes");
        refused(new CrackedColumn(4, 4, 4), 0, CrackedColumn.NO_ROW);
        refused(Columns.oneOfEach(), 3, CrackedColumn.NO_ROW);
        refused(Columns.oneOfEach(), 5, CrackedColumn.NO_ROW);
        CrackedColumn deleted = Columns.added(1, 2);
        deleted.delete(0);
        refused(deleted, 0, CrackedColumn.NO_ROW);
        CrackedColumn applied = Columns.removed(1, 2);
        applied.select(1, 2);
        refused(applied, 0, CrackedColumn.NO_ROW);
    }

    private static void aRemovedId() {
        Due.says("3.1: the id is REMOVED: answers NO_ROW; nothing changes");
        refused(Columns.oneOfEach(), 2, CrackedColumn.NO_ROW);
        refused(Columns.removed(0), 0, CrackedColumn.NO_ROW);
    }

    private static void noRowComesBeforePendingFull() {
        Due.says("3: conditions are taken in the order listed (1 before 3)");
        CrackedColumn x = Columns.oneOfEach();
        x.delete(0);
        x.insert(1);
        Due.is("pendingCount()", x.pendingCount(), 4);
        refused(x, 2, CrackedColumn.NO_ROW);
        refused(x, 5, CrackedColumn.NO_ROW);
        refused(x, 6, CrackedColumn.NO_ROW);
        refused(x, -1, CrackedColumn.NO_ROW);
    }

    private static void anAddedIdIsFreeAtOnce() {
        Due.says("3.2: the id is ADDED: it becomes FREE at once and its value is forgotten; one pending row less");
        CrackedColumn x = Columns.oneOfEach();
        Due.is("delete(1)", x.delete(1), CrackedColumn.OK);
        Due.is("rowState(1)", x.rowState(1), CrackedColumn.FREE);
        Due.is("rowValue(1)", x.rowValue(1), 0);
        Due.is("pendingCount()", x.pendingCount(), 1);
        Due.is("count(20, 21)", x.count(20, 21), 0);
        Due.is("insert(9)", x.insert(9), 1);
        Due.is("rowValue(1) of the next row", x.rowValue(1), 9);
    }

    private static void anAddedIdIsNeverRefused() {
        Due.says("3.2: never refused for want of room, even when the number of pending rows is pendingLimit");
        CrackedColumn one = new CrackedColumn(4, 1, 1);
        one.insert(8);
        Due.is("delete(0), pendingLimit 1", one.delete(0), CrackedColumn.OK);
        Due.is("pendingCount()", one.pendingCount(), 0);
        CrackedColumn sixteen = new CrackedColumn(32, 16, 1);
        for (int i = 0; i < 16; i++) {
            sixteen.insert(i);
        }
        Due.is("delete(15), pendingLimit 16", sixteen.delete(15), CrackedColumn.OK);
        Due.is("pendingCount()", sixteen.pendingCount(), 15);
        CrackedColumn both = Columns.oneOfEach();
        both.delete(0);
        both.insert(1);
        Due.is("pendingCount()", both.pendingCount(), 4);
        Due.is("delete(1) with REMOVED rows among the pending", both.delete(1), CrackedColumn.OK);
        Due.same("rows", Columns.rows(both), "R10 - R30 A1");
    }

    private static void anAddedIdLeavesTheRest() {
        Due.says("3: in every case all other ids, the cuts and the result stay as they are (ADDED)");
        CrackedColumn x = Columns.oneOfEach();
        String rest = Columns.rest(x);
        x.delete(1);
        Due.same("the rest", Columns.rest(x), rest);
        Due.same("rows", Columns.rows(x), "S10 - R30");
        Due.is("storedCount()", x.storedCount(), 2);
    }

    private static void aSettledIdWithoutRoom() {
        Due.says("3.3: SETTLED and the number of pending rows is pendingLimit: PENDING_FULL; nothing changes");
        CrackedColumn x = Columns.oneOfEach();
        Columns.insertAll(x, 1, 2);
        Due.is("pendingCount()", x.pendingCount(), 4);
        refused(x, 0, CrackedColumn.PENDING_FULL);
        CrackedColumn y = Columns.thirtyTwo(5);
        for (int id = 0; id < 16; id++) {
            y.delete(id);
        }
        refused(y, 16, CrackedColumn.PENDING_FULL);
        refused(y, 31, CrackedColumn.PENDING_FULL);
        y.restore(3);
        Due.is("delete(31) with room again", y.delete(31), CrackedColumn.OK);
    }

    private static void aSettledIdWithTheLastRoom() {
        Due.says("3.3: refused when the number is pendingLimit (and not one before)");
        CrackedColumn x = new CrackedColumn(4, 1, 1);
        x.insert(7);
        x.select(7, 8);
        Due.is("delete(0), pendingLimit 1", x.delete(0), CrackedColumn.OK);
        CrackedColumn y = Columns.oneOfEach();
        y.insert(1);
        Due.is("pendingCount()", y.pendingCount(), 3);
        Due.is("delete(0), one below pendingLimit", y.delete(0), CrackedColumn.OK);
        Due.is("pendingCount()", y.pendingCount(), 4);
    }

    private static void aSettledIdBecomesRemoved() {
        Due.says("3: otherwise (SETTLED) the id becomes REMOVED and keeps its value; answers OK; one pending row more");
        for (int value : new int[] {MIN, -1, 0, 1, MAX - 1}) {
            CrackedColumn x = Columns.settled(3, value);
            Due.is("delete(1)", x.delete(1), CrackedColumn.OK);
            Due.same("rows", Columns.rows(x), "S3 R" + value);
            Due.is("pendingCount()", x.pendingCount(), 1);
        }
    }

    private static void aRemovedRowIsStillStored() {
        Due.says("3: no longer live but still stored, so storedCount, cutBelow and pieceOf answer as before");
        CrackedColumn x = Columns.settled(3, 4, 5);
        x.select(4, 5);
        Due.is("delete(1)", x.delete(1), CrackedColumn.OK);
        Due.is("count(3, 6)", x.count(3, 6), 2);
        Due.is("storedCount()", x.storedCount(), 3);
        Due.same("below", Columns.below(x), "below 1 2");
        Due.same("pieces", Columns.pieces(x, 3), "pieces 0 1 2");
    }

    private static void aSettledIdLeavesTheRest() {
        Due.says("3: in every case all other ids, the cuts and the result stay as they are (SETTLED)");
        CrackedColumn x = Columns.oneOfEach();
        String rest = Columns.rest(x);
        x.delete(0);
        Due.same("the rest", Columns.rest(x), rest);
        Due.same("rows", Columns.rows(x), "R10 A20 R30");
    }
}
