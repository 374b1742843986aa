/** Promise 1: the arguments are clamped, each on its own, and the column starts empty. */
public final class ConstructorTest {
    private static final int MIN = Columns.MIN;
    private static final int MAX = Columns.MAX;

    public static void main(String[] args) {
        rowLimitIsClamped();
        pendingLimitIsClamped();
        cutLimitIsClamped();
        limitsDoNotMix();
        startsEmpty();
        constantsHaveTheirValues();
        Due.end();
    }

    private static int ids(CrackedColumn x) {
        int ids = 0;
        for (int id = 0; id < 100; id++) {
            ids += x.rowState(id) == CrackedColumn.NONE ? 0 : 1;
        }
        return ids;
    }

    /** How many rows fit, when each is settled before the next comes. */
    private static int rows(CrackedColumn x) {
        int rows = 0;
        while (rows < 100 && x.insert(rows) >= 0) {
            x.select(rows, rows + 1);
            rows++;
        }
        Due.is("insert into a full column", x.insert(0), CrackedColumn.FULL);
        return rows;
    }

    private static int pending(CrackedColumn x) {
        int pending = 0;
        while (pending < 100 && x.insert(pending) >= 0) {
            pending++;
        }
        return pending;
    }

    private static int cuts(CrackedColumn x) {
        for (int v = 0; v < 100; v++) {
            x.select(v, v + 1);
        }
        return x.cutCount();
    }

    private static void rowLimitIsClamped() {
        int[][] pairs = {{MIN, 4}, {-1, 4}, {0, 4}, {3, 4}, {4, 4}, {5, 5}, {17, 17}, {31, 31}, {32, 32}, {33, 32}, {MAX, 32}};
        for (int[] pair : pairs) {
            String what = "of rowLimit " + pair[0];
            Due.is("ids " + what, ids(new CrackedColumn(pair[0], 5, 5)), pair[1]);
            Due.is("rows " + what, rows(new CrackedColumn(pair[0], 1, 1)), pair[1]);
        }
    }

    private static void pendingLimitIsClamped() {
        int[][] pairs = {{MIN, 1}, {-1, 1}, {0, 1}, {1, 1}, {2, 2}, {9, 9}, {15, 15}, {16, 16}, {17, 16}, {MAX, 16}};
        for (int[] pair : pairs) {
            CrackedColumn x = new CrackedColumn(32, pair[0], 5);
            Due.is("inserts with pendingLimit " + pair[0], pending(x), pair[1]);
            Due.is("one more insert", x.insert(1), CrackedColumn.PENDING_FULL);
        }
    }

    private static void cutLimitIsClamped() {
        int[][] pairs = {{MIN, 1}, {-1, 1}, {0, 1}, {1, 1}, {2, 2}, {9, 9}, {15, 15}, {16, 16}, {17, 16}, {MAX, 16}};
        for (int[] pair : pairs) {
            Due.is("cuts with cutLimit " + pair[0], cuts(new CrackedColumn(32, 5, pair[0])), pair[1]);
        }
    }

    private static void limitsDoNotMix() {
        CrackedColumn x = new CrackedColumn(7, 3, 2);
        Due.is("ids", ids(x), 7);
        Due.is("pending", pending(x), 3);
        Due.is("cuts", cuts(x), 2);
    }

    private static void startsEmpty() {
        CrackedColumn x = new CrackedColumn(4, 3, 2);
        for (int id = 0; id < 4; id++) {
            Due.is("rowState(" + id + ")", x.rowState(id), CrackedColumn.FREE);
            Due.is("rowValue(" + id + ")", x.rowValue(id), 0);
        }
        Due.is("cutCount()", x.cutCount(), 0);
        Due.is("storedCount()", x.storedCount(), 0);
        Due.is("pendingCount()", x.pendingCount(), 0);
        Due.same("start", Columns.result(x), "result sum 0");
    }

    private static void constantsHaveTheirValues() {
        Due.is("FREE", CrackedColumn.FREE, 0);
        Due.is("ADDED", CrackedColumn.ADDED, 1);
        Due.is("SETTLED", CrackedColumn.SETTLED, 2);
        Due.is("REMOVED", CrackedColumn.REMOVED, 3);
        Due.is("OK", CrackedColumn.OK, 0);
        Due.is("NONE", CrackedColumn.NONE, -1);
        Due.is("BAD_VALUE", CrackedColumn.BAD_VALUE, -2);
        Due.is("FULL", CrackedColumn.FULL, -3);
        Due.is("PENDING_FULL", CrackedColumn.PENDING_FULL, -4);
        Due.is("NO_ROW", CrackedColumn.NO_ROW, -5);
        Due.is("BAD_RANGE", CrackedColumn.BAD_RANGE, -6);
        Due.is("NO_CUT", CrackedColumn.NO_CUT, -7);
    }
}
