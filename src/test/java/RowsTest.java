/** Promises 13 to 17: pieceOf, rowState, rowValue, storedCount and pendingCount. */
public final class RowsTest {
    private static final int MIN = Columns.MIN;
    private static final int MAX = Columns.MAX;

    public static void main(String[] args) {
        wrongIds();
        oneRowOfEachState();
        pieceIsTheNumberOfCutsUpToTheValue();
        pieceAnswersForNow();
        valueZeroAndForgottenValues();
        countsReachTheirLimits();
        Due.end();
    }

    private static void wrongId(CrackedColumn x, int id) {
        Columns.changesNothing(x, "pieceOf(" + id + ")", CrackedColumn.NONE, () -> x.pieceOf(id));
        Columns.changesNothing(x, "rowState(" + id + ")", CrackedColumn.NONE, () -> x.rowState(id));
        Columns.changesNothing(x, "rowValue(" + id + ")", 0, () -> x.rowValue(id));
    }

    private static void wrongIds() {
        CrackedColumn x = Columns.oneOfEach();
        for (int id : Columns.WRONG_INDEXES) {
            wrongId(x, id);
        }
        // 6 is rowLimit; up to 31 another column may have ids.
        wrongId(x, 6);
        wrongId(x, 31);
        wrongId(x, 32);
    }

    private static void oneRowOfEachState() {
        CrackedColumn x = Columns.oneOfEach();
        int[] states = {CrackedColumn.SETTLED, CrackedColumn.ADDED, CrackedColumn.REMOVED, CrackedColumn.FREE};
        int[] values = {10, 20, 30, 0};
        int[] pieces = {1, CrackedColumn.NONE, 1, CrackedColumn.NONE};
        for (int i = 0; i < states.length; i++) {
            int id = i;
            Columns.changesNothing(x, "rowState(" + id + ")", states[id], () -> x.rowState(id));
            Columns.changesNothing(x, "rowValue(" + id + ")", values[id], () -> x.rowValue(id));
            Columns.changesNothing(x, "pieceOf(" + id + ")", pieces[id], () -> x.pieceOf(id));
        }
        Columns.changesNothing(x, "storedCount()", 2, x::storedCount);
        Columns.changesNothing(x, "pendingCount()", 2, x::pendingCount);
    }

    private static void pieceIsTheNumberOfCutsUpToTheValue() {
        CrackedColumn x = Columns.settled(9, 10, 19, 20, 21, MIN, MAX - 1);
        for (int id = 0; id < 7; id++) {
            Due.is("pieceOf(" + id + ") without cuts", x.pieceOf(id), 0);
        }
        x.select(10, 20);
        int[] pieces = {0, 1, 1, 2, 2, 0, 2};
        for (int id = 0; id < pieces.length; id++) {
            Due.is("pieceOf(" + id + ")", x.pieceOf(id), pieces[id]);
        }
        x.select(MIN, MAX);
        Due.is("pieceOf(5) with MIN a cut", x.pieceOf(5), 1);
        Due.is("pieceOf(6) with MAX a cut", x.pieceOf(6), 3);
    }

    private static void pieceAnswersForNow() {
        CrackedColumn x = Columns.settled(10, 30);
        x.delete(1);
        x.select(5, 20);
        Due.is("pieceOf(0)", x.pieceOf(0), 1);
        Due.is("pieceOf(1), removed", x.pieceOf(1), 2);
        x.select(7, 8);
        Due.is("pieceOf(0) with more cuts", x.pieceOf(0), 3);
        x.forgetCut(0);
        Due.is("pieceOf(0) with a cut less", x.pieceOf(0), 2);
        Due.is("pieceOf(1) with a cut less", x.pieceOf(1), 3);
        x.select(30, 31);
        Due.is("pieceOf(1), its delete applied", x.pieceOf(1), CrackedColumn.NONE);
    }

    private static void valueZeroAndForgottenValues() {
        CrackedColumn x = Columns.added(0, 8, 9);
        Due.is("rowValue(0)", x.rowValue(0), 0);
        Due.is("rowState(0)", x.rowState(0), CrackedColumn.ADDED);
        x.delete(1);
        Due.is("rowValue(1), forgotten by delete", x.rowValue(1), 0);
        x.select(9, 10);
        x.delete(2);
        Due.is("rowValue(2), removed", x.rowValue(2), 9);
        x.select(9, 10);
        Due.is("rowValue(2), forgotten by select", x.rowValue(2), 0);
        Due.is("rowState(2)", x.rowState(2), CrackedColumn.FREE);
    }

    private static void countsReachTheirLimits() {
        CrackedColumn x = new CrackedColumn(32, 16, 4);
        for (int i = 0; i < 16; i++) {
            x.insert(i);
        }
        Due.is("pendingCount() at pendingLimit", x.pendingCount(), 16);
        Due.is("storedCount() with ADDED rows alone", x.storedCount(), 0);
        x.select(0, 100);
        for (int i = 16; i < 32; i++) {
            x.insert(i);
        }
        x.select(0, 100);
        Due.is("storedCount() at rowLimit", x.storedCount(), 32);
        Due.is("pendingCount() with SETTLED rows alone", x.pendingCount(), 0);
        for (int id = 0; id < 16; id++) {
            x.delete(id);
        }
        Due.is("storedCount() with REMOVED rows", x.storedCount(), 32);
        Due.is("pendingCount() with REMOVED rows", x.pendingCount(), 16);
        CrackedColumn small = new CrackedColumn(4, 16, 4);
        Columns.insertAll(small, 1, 2, 3, 4, 5);
        Due.is("pendingCount() at a smaller rowLimit", small.pendingCount(), 4);
    }
}
