/** Promise 1: the arguments are clamped, each on its own, and the column starts empty. */
public final class ConstructorTest {
    private static final int MIN = Columns.MIN;
    private static final int MAX = Columns.MAX;
    private static final int[] ANY = {MIN, MIN + 1, -1, 0, 1, 2, 3, 4, 5, 15, 16, 17, 31, 32, 33, MAX - 1, MAX};

    public static void main(String[] args) {
        rowLimitBelowTheLeast();
        rowLimitAboveTheGreatest();
        rowLimitBetween();
        pendingLimitBelowTheLeast();
        pendingLimitAboveTheGreatest();
        pendingLimitBetween();
        cutLimitBelowTheLeast();
        cutLimitAboveTheGreatest();
        cutLimitBetween();
        acceptsAnyThreeInts();
        limitsStayFixed();
        startsEmpty();
        constantsHaveTheirValues();
        Due.end();
    }

    private static int ids(CrackedColumn x) {
        int ids = 0;
        for (int id = 0; id < 100; id++) {
            ids += x.rowState(id) == CrackedColumn.NONE ? 0 : 1;
        }
        return ids;
    }

    /** How many rows fit, when each is settled before the next comes. */
    private static int rows(CrackedColumn x) {
        int rows = 0;
        while (rows < 100 && x.insert(rows) >= 0) {
            x.select(rows, rows + 1);
            rows++;
        }
        return rows;
    }

    private static int pending(CrackedColumn x) {
        int pending = 0;
        while (pending < 100 && x.insert(pending) >= 0) {
            pending++;
        }
        return pending;
    }

    private static int cuts(CrackedColumn x) {
        for (int v = 0; v < 100; v++) {
            x.select(v, v + 1);
        }
        return x.cutCount();
    }

    private static void rowLimitIs(int given, int want) {
        Due.is("ids of rowLimit " + given, ids(new CrackedColumn(given, 5, 5)), want);
        CrackedColumn x = new CrackedColumn(given, 1, 1);
        Due.is("rows of rowLimit " + given, rows(x), want);
        Due.is("one row more", x.insert(0), CrackedColumn.FULL);
    }

    private static void rowLimitBelowTheLeast() {
        Due.says("1: below the least it becomes the least; rowLimit: 4");
        for (int given : new int[] {3, 2, 1, 0, -1, -4, MIN + 1, MIN}) {
            rowLimitIs(given, 4);
        }
    }

    private static void rowLimitAboveTheGreatest() {
        Due.says("1: above the greatest it becomes the greatest; rowLimit: 32");
        for (int given : new int[] {33, 34, 64, 1000, MAX - 1, MAX}) {
            rowLimitIs(given, 32);
        }
    }

    private static void rowLimitBetween() {
        Due.says("1: rowLimit: 4 to 32, the number of ids");
        for (int given = 4; given <= 32; given++) {
            rowLimitIs(given, given);
        }
    }

    private static void pendingLimitIs(int given, int want) {
        CrackedColumn x = new CrackedColumn(32, given, 5);
        Due.is("pending rows of pendingLimit " + given, pending(x), want);
        Due.is("one insert more", x.insert(0), CrackedColumn.PENDING_FULL);
    }

    private static void pendingLimitBelowTheLeast() {
        Due.says("1: below the least it becomes the least; pendingLimit: 1");
        for (int given : new int[] {0, -1, -2, MIN + 1, MIN}) {
            pendingLimitIs(given, 1);
        }
    }

    private static void pendingLimitAboveTheGreatest() {
        Due.says("1: above the greatest it becomes the greatest; pendingLimit: 16");
        for (int given : new int[] {17, 18, 32, 1000, MAX - 1, MAX}) {
            pendingLimitIs(given, 16);
        }
    }

    private static void pendingLimitBetween() {
        Due.says("1: pendingLimit: 1 to 16, the greatest number of pending rows (ADDED plus REMOVED)");
        for (int given = 1; given <= 16; given++) {
            pendingLimitIs(given, given);
        }
    }

    private static void cutLimitIs(int given, int want) {
        Due.is("cuts of cutLimit " + given, cuts(new CrackedColumn(32, 5, given)), want);
    }

    private static void cutLimitBelowTheLeast() {
        Due.says("1: below the least it becomes the least; cutLimit: 1");
        for (int given : new int[] {0, -1, -2, MIN + 1, MIN}) {
            cutLimitIs(given, 1);
        }
    }

    private static void cutLimitAboveTheGreatest() {
        Due.says("1: above the greatest it becomes the greatest; cutLimit: 16");
        for (int given : new int[] {17, 18, 32, 1000, MAX - 1, MAX}) {
            cutLimitIs(given, 16);
        }
    }

    private static void cutLimitBetween() {
        Due.says("1: cutLimit: 1 to 16, the greatest number of cuts");
        for (int given = 1; given <= 16; given++) {
            cutLimitIs(given, given);
        }
    }

    private static int clamped(int given, int least, int most) {
        return Math.max(least, Math.min(most, given));
    }

    private static void acceptsAnyThreeInts() {
        Due.says("1: accepts any three ints; each argument is clamped on its own");
        for (int a : ANY) {
            for (int b : ANY) {
                for (int c : ANY) {
                    CrackedColumn x = new CrackedColumn(a, b, c);
                    String of = " of (" + a + ", " + b + ", " + c + ")";
                    int rows = clamped(a, 4, 32);
                    Due.is("ids" + of, ids(x), rows);
                    Due.is("pending rows" + of, pending(x), Math.min(rows, clamped(b, 1, 16)));
                    Due.is("cuts" + of, cuts(x), clamped(c, 1, 16));
                }
            }
        }
    }

    private static void limitsStayFixed() {
        Due.says("1: these three stay fixed from then on");
        CrackedColumn x = new CrackedColumn(7, 3, 2);
        for (int round = 0; round < 5; round++) {
            Due.is("ids", ids(x), 7);
            Due.is("pending rows", pending(x), 3);
            Due.is("cuts", cuts(x), 2);
            Due.is("rows from the fourth on", rows(x), 4);
            for (int id = 0; id < 7; id++) {
                x.delete(id);
                x.select(MIN, MAX);
            }
            Columns.forgetAllCuts(x);
            Due.same("all gone", Columns.rows(x), "");
        }
    }

    private static void startsEmpty() {
        Due.says("1: at first every id is FREE, there are no cuts, the result is the empty set and its sum is 0");
        for (int rowLimit = 4; rowLimit <= 32; rowLimit++) {
            CrackedColumn x = new CrackedColumn(rowLimit, 3, 2);
            for (int id = 0; id < rowLimit; id++) {
                Due.is("rowState(" + id + ")", x.rowState(id), CrackedColumn.FREE);
            }
            Due.same("rows", Columns.rows(x), "");
            Due.same("the rest", Columns.rest(x), "cuts | below | result sum 0");
            Due.is("cutCount()", x.cutCount(), 0);
            Due.is("storedCount()", x.storedCount(), 0);
            Due.is("pendingCount()", x.pendingCount(), 0);
        }
    }

    private static void constantsHaveTheirValues() {
        Due.says("What it is: public constants, all of type int");
        Due.is("FREE", CrackedColumn.FREE, 0);
        Due.is("ADDED", CrackedColumn.ADDED, 1);
        Due.is("SETTLED", CrackedColumn.SETTLED, 2);
        Due.is("REMOVED", CrackedColumn.REMOVED, 3);
        Due.is("OK", CrackedColumn.OK, 0);
        Due.is("NONE", CrackedColumn.NONE, -1);
        Due.is("BAD_VALUE", CrackedColumn.BAD_VALUE, -2);
        Due.is("FULL", CrackedColumn.FULL, -3);
        Due.is("PENDING_FULL", CrackedColumn.PENDING_FULL, -4);
        Due.is("NO_ROW", CrackedColumn.NO_ROW, -5);
        Due.is("BAD_RANGE", CrackedColumn.BAD_RANGE, -6);
        Due.is("NO_CUT", CrackedColumn.NO_CUT, -7);
    }
}
