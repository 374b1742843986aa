/** Promise 17: pendingCount. */
public final class PendingCountTest {
    private static final int MIN = Columns.MIN;
    private static final int MAX = Columns.MAX;

    public static void main(String[] args) {
        noRows();
        addedRowsAreCounted();
        removedRowsAreCounted();
        settledRowsAreNotCounted();
        reachesPendingLimit();
        reachesASmallerRowLimit();
        followsTheRows();
        refusedCallsDoNotCount();
        Due.end();
    }

    private static void pending(CrackedColumn x, int want) {
        Columns.changesNothing(x, "pendingCount()", want, x::pendingCount);
    }

    private static void noRows() {
        Due.says("17: the number of pending rows, from 0");
        pending(new CrackedColumn(4, 4, 4), 0);
        CrackedColumn x = Columns.added(1);
        x.delete(0);
        pending(x, 0);
    }

    private static void addedRowsAreCounted() {
        Due.says("17: ADDED plus REMOVED (ADDED)");
        pending(Columns.added(0, 0, 5), 3);
    }

    private static void removedRowsAreCounted() {
        Due.says("17: ADDED plus REMOVED (REMOVED)");
        pending(Columns.removed(0, 0, 5), 3);
        pending(Columns.oneOfEach(), 2);
    }

    private static void settledRowsAreNotCounted() {
        Due.says("17: SETTLED rows are not counted");
        pending(Columns.settled(0, 0, 5), 0);
        pending(Columns.thirtyTwo(5), 0);
    }

    private static void reachesPendingLimit() {
        Due.says("17: to the smaller of pendingLimit and rowLimit (pendingLimit)");
        for (int pendingLimit = 1; pendingLimit <= 16; pendingLimit++) {
            CrackedColumn x = new CrackedColumn(32, pendingLimit, 4);
            for (int i = 0; i < 20; i++) {
                x.insert(i);
            }
            pending(x, pendingLimit);
        }
        CrackedColumn y = Columns.thirtyTwo(5);
        for (int id = 0; id < 32; id++) {
            y.delete(id);
        }
        pending(y, 16);
    }

    private static void reachesASmallerRowLimit() {
        Due.says("17: to the smaller of pendingLimit and rowLimit (rowLimit)");
        for (int rowLimit = 4; rowLimit <= 16; rowLimit++) {
            CrackedColumn x = new CrackedColumn(rowLimit, 16, 4);
            for (int i = 0; i < 20; i++) {
                x.insert(i);
            }
            pending(x, rowLimit);
            x.select(MIN, MAX);
            for (int id = 0; id < 20; id++) {
                x.delete(id);
            }
            pending(x, rowLimit);
        }
    }

    private static void followsTheRows() {
        Due.says("17: the number of pending rows; nothing changes");
        CrackedColumn x = Columns.added(1, 2, 3);
        x.select(1, 3);
        pending(x, 1);
        x.delete(0);
        pending(x, 2);
        x.restore(0);
        pending(x, 1);
        x.delete(0);
        x.delete(2);
        pending(x, 1);
        x.select(1, 2);
        pending(x, 0);
    }

    private static void refusedCallsDoNotCount() {
        Due.says("17: the number of pending rows (refused calls came)");
        CrackedColumn x = Columns.oneOfEach();
        x.insert(MAX);
        x.delete(5);
        x.delete(2);
        x.restore(0);
        x.select(31, 30);
        pending(x, 2);
    }
}
