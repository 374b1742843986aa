import java.util.function.IntSupplier;

/** Columns in known states, and everything that can be seen of a column. */
final class Columns {
    static final int MIN = Integer.MIN_VALUE;
    static final int MAX = Integer.MAX_VALUE;

    /** Wrong as ids, as numbers of cuts and as numbers in the result, whatever the limits are. */
    static final int[] TOO_SMALL = {-1, -2, -32, MIN + 1, MIN};
    static final int[] TOO_LARGE = {32, 33, 64, 1000, MAX - 1, MAX};

    /** Pairs lo, hi with lo >= hi; in some of them hi - lo is more than 0 as an int wraps around. */
    static final int[][] BAD_RANGES = {
        {10, 10}, {0, 0}, {-7, -7}, {MIN, MIN}, {MAX, MAX},
        {11, 10}, {30, 20}, {0, -1}, {1, 0}, {MIN + 1, MIN}, {MAX, MAX - 1},
        {MAX, MIN}, {0, MIN}, {MAX, -1}, {1, MIN}, {MAX, -2}};

    private Columns() {
    }

    /** A column with every limit at its greatest, and rows 0, 1, 2 .. that are ADDED. */
    static CrackedColumn added(int... values) {
        CrackedColumn x = new CrackedColumn(32, 16, 16);
        insertAll(x, values);
        return x;
    }

    /** As added, but the rows are SETTLED and no cut is left; the result is all rows. */
    static CrackedColumn settled(int... values) {
        CrackedColumn x = added(values);
        x.select(MIN, MAX);
        forgetAllCuts(x);
        return x;
    }

    /** As settled, but the rows are REMOVED. */
    static CrackedColumn removed(int... values) {
        CrackedColumn x = settled(values);
        for (int id = 0; id < values.length; id++) {
            x.delete(id);
        }
        return x;
    }

    /** As settled, with 32 rows of the same value and no pending row. */
    static CrackedColumn thirtyTwo(int value) {
        CrackedColumn x = new CrackedColumn(32, 16, 16);
        for (int id = 0; id < 32; id++) {
            x.insert(value);
            x.select(MIN, MAX);
        }
        forgetAllCuts(x);
        return x;
    }

    /** A column of the greatest limits with the cuts 0, 1, 2 .. 15 and the given rows, SETTLED. */
    static CrackedColumn sixteenCuts(int... values) {
        CrackedColumn x = settled(values);
        for (int v = 0; v < 16; v++) {
            x.select(v, v + 1);
        }
        return x;
    }

    /**
     * One row of each state: 0 is SETTLED with 10, 1 ADDED with 20, 2 REMOVED with 30, 3 to 5 are FREE.
     * The limits are 6, 4, 4; the cuts are 10 and 40; the result is 0 and 2 with the sum 40.
     */
    static CrackedColumn oneOfEach() {
        CrackedColumn x = new CrackedColumn(6, 4, 4);
        insertAll(x, 10, 25, 30);
        x.delete(1);
        x.select(10, 40);
        x.insert(20);
        x.delete(2);
        return x;
    }

    static void insertAll(CrackedColumn x, int... values) {
        for (int value : values) {
            x.insert(value);
        }
    }

    static void forgetAllCuts(CrackedColumn x) {
        for (int k = 0; k < 16; k++) {
            x.forgetCut(0);
        }
    }

    /** The rows from id 0 on, as in "S10 A20 R30 - A5": state and value. FREE ids at the end are left out. */
    static String rows(CrackedColumn x) {
        StringBuilder s = new StringBuilder();
        String gap = "";
        for (int id = 0; id < 32; id++) {
            String row = row(x, id);
            if (row.equals("-")) {
                gap += " -";
            } else {
                s.append(gap).append(' ').append(row);
                gap = "";
            }
        }
        return s.toString().trim();
    }

    private static String row(CrackedColumn x, int id) {
        int state = x.rowState(id);
        int value = x.rowValue(id);
        if (state == CrackedColumn.FREE || state == CrackedColumn.NONE) {
            return value == 0 ? "-" : "-" + value;
        }
        return (state >= 1 && state <= 3 ? "" + " ASR".charAt(state) : "?" + state + ":") + value;
    }

    static String cuts(CrackedColumn x) {
        StringBuilder s = new StringBuilder("cuts");
        for (int k = 0; k < x.cutCount(); k++) {
            s.append(' ').append(x.cutValue(k));
        }
        return s.toString();
    }

    static String below(CrackedColumn x) {
        StringBuilder s = new StringBuilder("below");
        for (int k = 0; k < x.cutCount(); k++) {
            s.append(' ').append(x.cutBelow(k));
        }
        return s.toString();
    }

    /** The pieces of the ids from 0 on, as many as asked for. */
    static String pieces(CrackedColumn x, int ids) {
        StringBuilder s = new StringBuilder("pieces");
        for (int id = 0; id < ids; id++) {
            s.append(' ').append(x.pieceOf(id));
        }
        return s.toString();
    }

    static String result(CrackedColumn x) {
        StringBuilder s = new StringBuilder("result");
        for (int k = 0; k <= 32 && x.resultRow(k) != CrackedColumn.NONE; k++) {
            s.append(' ').append(x.resultRow(k));
        }
        return s + " sum " + x.resultSum();
    }

    /** All that is not the rows' own states and values. */
    static String rest(CrackedColumn x) {
        return cuts(x) + " | " + below(x) + " | " + result(x);
    }

    static String all(CrackedColumn x) {
        StringBuilder states = new StringBuilder("states");
        for (int id = -1; id <= 32; id++) {
            states.append(' ').append(x.rowState(id));
        }
        return rows(x) + " | " + states + " | " + pieces(x, 33) + " | " + rest(x)
            + " | stored " + x.storedCount() + " pending " + x.pendingCount();
    }

    /** Makes the call and looks that it has the answer that is due and changes nothing that can be seen. */
    static void changesNothing(CrackedColumn x, String call, long want, IntSupplier made) {
        String before = all(x);
        Due.is(call, made.getAsInt(), want);
        Due.same("after " + call, all(x), before);
    }

    /** Makes every call that is not said to change anything, with good and wrong arguments. */
    static void readEverything(CrackedColumn x) {
        for (int i = -2; i <= 34; i++) {
            readAt(x, i);
            x.count(i, i + 3);
            x.count(i, i);
        }
        readAt(x, MIN);
        readAt(x, MAX);
        x.count(MIN, MAX);
        x.resultSum();
        x.cutCount();
        x.storedCount();
        x.pendingCount();
    }

    private static void readAt(CrackedColumn x, int i) {
        x.resultRow(i);
        x.cutValue(i);
        x.cutBelow(i);
        x.pieceOf(i);
        x.rowState(i);
        x.rowValue(i);
    }
}
