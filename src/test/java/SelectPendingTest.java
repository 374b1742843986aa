/** Promise 5, the refusal and step a: select applies the pending updates of its range. */
public final class SelectPendingTest {
    private static final int MIN = Columns.MIN;
    private static final int MAX = Columns.MAX;

    public static void main(String[] args) {
        equalBoundsAreRefused();
        boundsTheWrongWayAreRefused();
        aRefusedSelectAppliesNothing();
        addedInsideBecomesSettled();
        removedInsideBecomesFree();
        settledStaysSettled();
        outsideKeepsStateAndValue();
        freeStaysFree();
        aValueEqualToLoIsApplied();
        aValueEqualToHiIsNot();
        theExtremesAreApplied();
        allPendingRowsAreApplied();
        Due.end();
    }

    private static void refused(CrackedColumn x, int lo, int hi) {
        String call = "select(" + lo + ", " + hi + ")";
        Columns.changesNothing(x, call, CrackedColumn.BAD_RANGE, () -> x.select(lo, hi));
    }

    private static void equalBoundsAreRefused() {
        Due.says("5.1: lo >= hi: answers BAD_RANGE (lo equals hi); nothing changes; the earlier result stays");
        for (int bound : new int[] {MIN, -1, 0, 10, 20, 30, 40, MAX}) {
            refused(Columns.oneOfEach(), bound, bound);
        }
    }

    private static void boundsTheWrongWayAreRefused() {
        Due.says("5.1: lo >= hi: answers BAD_RANGE (lo greater than hi); nothing changes; the earlier result stays");
        for (int[] r : Columns.BAD_RANGES) {
            refused(Columns.oneOfEach(), r[0], r[1]);
        }
        refused(Columns.oneOfEach(), 31, 10);
    }

    private static void aRefusedSelectAppliesNothing() {
        Due.says("5.1: nothing changes (before the first accepted select too)");
        CrackedColumn x = Columns.added(5, 6);
        refused(x, 7, 5);
        Due.same("all", Columns.rows(x) + " " + Columns.rest(x), "A5 A6 cuts | below | result sum 0");
    }

    private static void addedInsideBecomesSettled() {
        Due.says("5a: each ADDED id whose value is inside lo, hi becomes SETTLED with the same value");
        CrackedColumn x = Columns.added(5, -5, 7, 0);
        x.select(-9, 9);
        Due.same("rows", Columns.rows(x), "S5 S-5 S7 S0");
        Due.is("pendingCount()", x.pendingCount(), 0);
        Due.is("storedCount()", x.storedCount(), 4);
    }

    private static void removedInsideBecomesFree() {
        Due.says("5a: each REMOVED id whose value is inside lo, hi becomes FREE and its value is forgotten");
        CrackedColumn x = Columns.removed(5, -5, 7, 0);
        x.select(-9, 9);
        for (int id = 0; id < 4; id++) {
            Due.is("rowState(" + id + ")", x.rowState(id), CrackedColumn.FREE);
            Due.is("rowValue(" + id + ")", x.rowValue(id), 0);
        }
        Due.is("pendingCount()", x.pendingCount(), 0);
        Due.is("storedCount()", x.storedCount(), 0);
    }

    private static void settledStaysSettled() {
        Due.says("5a: SETTLED ids stay SETTLED");
        CrackedColumn x = Columns.settled(5, -5, 7);
        x.select(5, 7);
        x.select(-9, 9);
        Due.same("rows", Columns.rows(x), "S5 S-5 S7");
    }

    private static void outsideKeepsStateAndValue() {
        Due.says("5a: ids with values not inside lo, hi keep state and value; their pending updates go on waiting");
        CrackedColumn x = Columns.removed(1, 5, 9);
        Columns.insertAll(x, 2, 4, 5, 7, 8);
        x.restore(0);
        x.select(4, 8);
        Due.same("rows", Columns.rows(x), "S1 - R9 A2 S4 S5 S7 A8");
        Due.is("pendingCount()", x.pendingCount(), 3);
        Due.is("storedCount()", x.storedCount(), 5);
        x.select(8, 10);
        Due.same("rows touched later", Columns.rows(x), "S1 - - A2 S4 S5 S7 S8");
    }

    private static void freeStaysFree() {
        Due.says("5a: FREE ids stay FREE");
        CrackedColumn x = new CrackedColumn(8, 4, 4);
        x.select(MIN, MAX);
        Due.same("a new column", Columns.rows(x), "");
        Columns.insertAll(x, 5, 6, 7);
        x.delete(1);
        // A forgotten value must not be seen as 0 or as what it was.
        Due.is("select(-1, 1)", x.select(-1, 1), 0);
        Due.is("select(6, 7)", x.select(6, 7), 0);
        Due.same("a freed id", Columns.rows(x), "A5 - A7");
    }

    private static void aValueEqualToLoIsApplied() {
        Due.says("5: a row whose value equals lo is inside");
        CrackedColumn added = Columns.added(4);
        Due.is("select(4, 6)", added.select(4, 6), 1);
        Due.same("ADDED", Columns.rows(added), "S4");
        CrackedColumn removed = Columns.removed(4);
        Due.is("select(4, 6)", removed.select(4, 6), 0);
        Due.same("REMOVED", Columns.rows(removed), "");
        CrackedColumn settled = Columns.settled(4);
        Due.is("select(4, 6)", settled.select(4, 6), 1);
        Due.same("SETTLED", Columns.result(settled), "result 0 sum 4");
    }

    private static void aValueEqualToHiIsNot() {
        Due.says("5: a row whose value equals hi is not");
        CrackedColumn added = Columns.added(6);
        Due.is("select(4, 6)", added.select(4, 6), 0);
        Due.same("ADDED", Columns.rows(added), "A6");
        CrackedColumn removed = Columns.removed(6);
        Due.is("select(4, 6)", removed.select(4, 6), 0);
        Due.same("REMOVED", Columns.rows(removed), "R6");
        CrackedColumn settled = Columns.settled(6);
        Due.is("select(4, 6)", settled.select(4, 6), 0);
        Due.same("SETTLED", Columns.result(settled), "result sum 0");
    }

    private static void theExtremesAreApplied() {
        Due.says("5a: becomes SETTLED, or FREE (the least and the greatest values)");
        CrackedColumn x = Columns.added(MIN, MAX - 1);
        Due.is("select(MIN + 1, MAX - 1)", x.select(MIN + 1, MAX - 1), 0);
        Due.same("none touched", Columns.rows(x), "A-2147483648 A2147483646");
        Due.is("select(MIN, MIN + 1)", x.select(MIN, MIN + 1), 1);
        Due.is("select(MAX - 1, MAX)", x.select(MAX - 1, MAX), 1);
        Due.same("both settled", Columns.rows(x), "S-2147483648 S2147483646");
        x.delete(0);
        x.delete(1);
        Due.is("select(MIN, MAX)", x.select(MIN, MAX), 0);
        Due.same("both applied", Columns.rows(x), "");
    }

    private static void allPendingRowsAreApplied() {
        Due.says("5a: each (the greatest number of pending rows)");
        CrackedColumn x = Columns.thirtyTwo(5);
        for (int id = 0; id < 32; id += 2) {
            x.delete(id);
        }
        Due.is("pendingCount()", x.pendingCount(), 16);
        Due.is("select(5, 6)", x.select(5, 6), 16);
        Due.is("pendingCount()", x.pendingCount(), 0);
        Due.is("storedCount()", x.storedCount(), 16);
        for (int id = 0; id < 32; id++) {
            Due.is("rowState(" + id + ")", x.rowState(id), id % 2 == 0 ? CrackedColumn.FREE : CrackedColumn.SETTLED);
        }
    }
}
