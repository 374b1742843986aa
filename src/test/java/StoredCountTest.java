/** Promise 16: storedCount. */
public final class StoredCountTest {
    private static final int MIN = Columns.MIN;
    private static final int MAX = Columns.MAX;

    public static void main(String[] args) {
        noRows();
        settledRowsAreCounted();
        removedRowsAreCounted();
        addedRowsAreNotCounted();
        reachesRowLimit();
        followsTheRows();
        Due.end();
    }

    private static void stored(CrackedColumn x, int want) {
        Columns.changesNothing(x, "storedCount()", want, x::storedCount);
    }

    private static void noRows() {
        Due.says("16: the number of stored rows, from 0");
        stored(new CrackedColumn(4, 4, 4), 0);
        CrackedColumn x = Columns.removed(1, 2);
        x.select(1, 3);
        stored(x, 0);
    }

    private static void settledRowsAreCounted() {
        Due.says("16: SETTLED plus REMOVED (SETTLED)");
        stored(Columns.settled(0, 0, 5), 3);
    }

    private static void removedRowsAreCounted() {
        Due.says("16: SETTLED plus REMOVED (REMOVED)");
        stored(Columns.removed(0, 0, 5), 3);
        stored(Columns.oneOfEach(), 2);
    }

    private static void addedRowsAreNotCounted() {
        Due.says("16: ADDED rows are not counted");
        stored(Columns.added(0, 0, 5), 0);
        CrackedColumn x = Columns.settled(4);
        x.insert(5);
        stored(x, 1);
    }

    private static void reachesRowLimit() {
        Due.says("16: from 0 to rowLimit");
        CrackedColumn x = Columns.thirtyTwo(5);
        stored(x, 32);
        for (int id = 0; id < 16; id++) {
            x.delete(id);
        }
        stored(x, 32);
        CrackedColumn small = new CrackedColumn(4, 16, 4);
        Columns.insertAll(small, 1, 2, 3, 4, 5);
        small.select(MIN, MAX);
        stored(small, 4);
        for (int id = 0; id < 4; id++) {
            small.delete(id);
        }
        stored(small, 4);
    }

    private static void followsTheRows() {
        Due.says("16: the number of stored rows; nothing changes");
        CrackedColumn x = Columns.added(1, 2, 3);
        x.select(1, 3);
        stored(x, 2);
        x.delete(0);
        stored(x, 2);
        x.restore(0);
        stored(x, 2);
        x.delete(0);
        x.delete(2);
        stored(x, 2);
        x.select(1, 2);
        stored(x, 1);
    }
}
