import java.util.function.IntSupplier;

/** Columns in known states, and everything that can be seen of a column. */
final class Columns {
    static final int MIN = Integer.MIN_VALUE;
    static final int MAX = Integer.MAX_VALUE;
    static final int[] WRONG_INDEXES = {-1, -2, MIN, 33, 1000, MAX};

    private Columns() {
    }

    /** A column with every limit at its greatest, and rows 0, 1, 2 .. that are ADDED. */
    static CrackedColumn added(int... values) {
        CrackedColumn x = new CrackedColumn(32, 16, 16);
        insertAll(x, values);
        return x;
    }

    /** As added, but the rows are SETTLED and no cut is left. */
    static CrackedColumn settled(int... values) {
        CrackedColumn x = added(values);
        x.select(MIN, MAX);
        forgetAllCuts(x);
        return x;
    }

    /**
     * One row of each state: 0 is SETTLED with 10, 1 ADDED with 20, 2 REMOVED with 30, the rest FREE.
     * The cuts are 10 and 40; the result is 0 and 2 with the sum 40.
     */
    static CrackedColumn oneOfEach() {
        CrackedColumn x = new CrackedColumn(6, 4, 4);
        insertAll(x, 10, 25, 30);
        x.delete(1);
        x.select(10, 40);
        x.insert(20);
        x.delete(2);
        return x;
    }

    static void insertAll(CrackedColumn x, int... values) {
        for (int value : values) {
            x.insert(value);
        }
    }

    static void forgetAllCuts(CrackedColumn x) {
        for (int k = 0; k < 16; k++) {
            x.forgetCut(0);
        }
    }

    static String ids(CrackedColumn x) {
        StringBuilder s = new StringBuilder();
        for (int id = -1; id <= 32; id++) {
            s.append(x.rowState(id)).append(':').append(x.rowValue(id)).append(' ');
        }
        return s + "stored " + x.storedCount() + " pending " + x.pendingCount();
    }

    static String cuts(CrackedColumn x) {
        StringBuilder s = new StringBuilder("cuts");
        for (int k = 0; k < x.cutCount(); k++) {
            s.append(' ').append(x.cutValue(k));
        }
        return s.toString();
    }

    static String pieces(CrackedColumn x) {
        StringBuilder s = new StringBuilder("below");
        for (int k = -1; k <= 16; k++) {
            s.append(' ').append(x.cutBelow(k));
        }
        s.append(" pieces");
        for (int id = -1; id <= 32; id++) {
            s.append(' ').append(x.pieceOf(id));
        }
        return s.toString();
    }

    static String result(CrackedColumn x) {
        StringBuilder s = new StringBuilder("result");
        for (int k = 0; k <= 32 && x.resultRow(k) != CrackedColumn.NONE; k++) {
            s.append(' ').append(x.resultRow(k));
        }
        return s + " sum " + x.resultSum();
    }

    static String all(CrackedColumn x) {
        return ids(x) + " | " + cuts(x) + " | " + pieces(x) + " | " + result(x);
    }

    /** Makes the call and looks that it has the answer that is due and changes nothing that can be seen. */
    static void changesNothing(CrackedColumn x, String call, int want, IntSupplier made) {
        String before = all(x);
        Due.is(call, made.getAsInt(), want);
        Due.same("after " + call, all(x), before);
    }
}
