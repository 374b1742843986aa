/** Promise 8: count. */
public final class CountTest {
    private static final int MIN = Columns.MIN;
    private static final int MAX = Columns.MAX;

    public static void main(String[] args) {
        equalBoundsAreRefused();
        boundsTheWrongWayAreRefused();
        addedRowsAreCounted();
        settledRowsAreCounted();
        removedRowsAreNotCounted();
        restoredRowsAreCountedAgain();
        freeIdsAreNotCounted();
        aValueEqualToLoIsCounted();
        aValueEqualToHiIsNot();
        zeroOrMore();
        nothingChanges();
        Due.end();
    }

    private static void counts(CrackedColumn x, int lo, int hi, int want) {
        Columns.changesNothing(x, "count(" + lo + ", " + hi + ")", want, () -> x.count(lo, hi));
    }

    private static void equalBoundsAreRefused() {
        Due.says("8.1: lo >= hi: answers BAD_RANGE (lo equals hi)");
        for (int bound : new int[] {MIN, -1, 0, 10, 20, 30, 40, MAX}) {
            counts(Columns.oneOfEach(), bound, bound, CrackedColumn.BAD_RANGE);
        }
    }

    private static void boundsTheWrongWayAreRefused() {
        Due.says("8.1: lo >= hi: answers BAD_RANGE (lo greater than hi)");
        for (int[] r : Columns.BAD_RANGES) {
            counts(Columns.oneOfEach(), r[0], r[1], CrackedColumn.BAD_RANGE);
            counts(new CrackedColumn(4, 4, 4), r[0], r[1], CrackedColumn.BAD_RANGE);
        }
    }

    private static void addedRowsAreCounted() {
        Due.says("8: live rows, ADDED and SETTLED alike (ADDED)");
        counts(Columns.added(5, 5, 9), 5, 9, 2);
        counts(Columns.oneOfEach(), 20, 21, 1);
    }

    private static void settledRowsAreCounted() {
        Due.says("8: live rows, ADDED and SETTLED alike (SETTLED)");
        counts(Columns.settled(5, 5, 9), 5, 9, 2);
        counts(Columns.oneOfEach(), 10, 11, 1);
        counts(Columns.oneOfEach(), 10, 21, 2);
    }

    private static void removedRowsAreNotCounted() {
        Due.says("8: REMOVED rows are not counted");
        counts(Columns.removed(5, 5, 9), 5, 10, 0);
        counts(Columns.oneOfEach(), 30, 31, 0);
        counts(Columns.oneOfEach(), MIN, MAX, 2);
    }

    private static void restoredRowsAreCountedAgain() {
        Due.says("8: live rows (restored)");
        CrackedColumn x = Columns.oneOfEach();
        x.restore(2);
        counts(x, 30, 31, 1);
        counts(x, MIN, MAX, 3);
    }

    private static void freeIdsAreNotCounted() {
        Due.says("8: live rows (an id that is FREE has no value, not the value 0)");
        counts(new CrackedColumn(32, 16, 16), -1, 1, 0);
        CrackedColumn x = Columns.removed(0, 0, 7);
        x.restore(1);
        x.select(-1, 9);
        counts(x, -1, 9, 1);
        CrackedColumn y = Columns.added(7);
        y.delete(0);
        counts(y, -1, 9, 0);
    }

    private static void aValueEqualToLoIsCounted() {
        Due.says("8: whose value is inside lo, hi (equal to lo)");
        for (int value : new int[] {MIN, -1, 0, 1, MAX - 1}) {
            counts(Columns.added(value), value, MAX, 1);
            counts(Columns.settled(value), value, value + 1, 1);
        }
    }

    private static void aValueEqualToHiIsNot() {
        Due.says("8: whose value is inside lo, hi (equal to hi)");
        for (int value : new int[] {MIN + 1, -1, 0, 1, MAX - 1}) {
            counts(Columns.added(value), MIN, value, 0);
            counts(Columns.settled(value), value - 1, value, 0);
        }
    }

    private static void zeroOrMore() {
        Due.says("8: the number of live rows (0 or more)");
        counts(new CrackedColumn(4, 4, 4), MIN, MAX, 0);
        counts(Columns.thirtyTwo(5), MIN, MAX, 32);
        counts(Columns.thirtyTwo(MAX - 1), MAX - 1, MAX, 32);
    }

    private static void nothingChanges() {
        Due.says("8: changes nothing: no state, no cut, no result; pending rows stay pending");
        CrackedColumn x = Columns.oneOfEach();
        x.count(5, 35);
        Due.same("rows", Columns.rows(x), "S10 A20 R30");
        Due.same("the rest", Columns.rest(x), "cuts 10 40 | below 0 2 | result 0 2 sum 40");
        Due.is("pendingCount()", x.pendingCount(), 2);
    }
}
