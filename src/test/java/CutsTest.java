/** Promises 9 to 12: forgetCut, cutCount, cutValue and cutBelow. */
public final class CutsTest {
    private static final int MIN = Columns.MIN;
    private static final int MAX = Columns.MAX;

    public static void main(String[] args) {
        wrongNumbers();
        wrongNumbersWithoutCuts();
        forgettingRenumbers();
        forgettingMakesRoom();
        forgettingFromTheGreatestNumber();
        countsTheCuts();
        valuesAscendSigned();
        belowCountsStoredRowsAlone();
        belowAnswersForNow();
        readingChangesNothing();
        Due.end();
    }

    private static void wrongNumber(CrackedColumn x, int k) {
        Columns.changesNothing(x, "forgetCut(" + k + ")", CrackedColumn.NO_CUT, () -> x.forgetCut(k));
        Columns.changesNothing(x, "cutValue(" + k + ")", 0, () -> x.cutValue(k));
        Columns.changesNothing(x, "cutBelow(" + k + ")", CrackedColumn.NONE, () -> x.cutBelow(k));
    }

    private static void wrongNumbers() {
        CrackedColumn x = Columns.oneOfEach();
        for (int k : Columns.WRONG_INDEXES) {
            wrongNumber(x, k);
        }
        // 2 is cutCount; 4 is cutLimit; 16 is the greatest cutLimit of all.
        wrongNumber(x, 2);
        wrongNumber(x, 4);
        wrongNumber(x, 16);
    }

    private static void wrongNumbersWithoutCuts() {
        CrackedColumn x = Columns.settled(1, 2);
        for (int k = -1; k <= 17; k++) {
            wrongNumber(x, k);
        }
    }

    private static CrackedColumn fourCuts() {
        CrackedColumn x = Columns.settled(5, 15, 25, 35, 45);
        x.select(10, 20);
        x.select(30, 40);
        return x;
    }

    private static void forgettingRenumbers() {
        String[] left = {"cuts 20 30 40", "cuts 10 30 40", "cuts 10 20 40", "cuts 10 20 30"};
        for (int k = 0; k < 4; k++) {
            CrackedColumn x = fourCuts();
            String rest = Columns.ids(x) + Columns.result(x);
            Due.is("forgetCut(" + k + ")", x.forgetCut(k), CrackedColumn.OK);
            Due.is("cutCount()", x.cutCount(), 3);
            Due.same("left", Columns.cuts(x), left[k]);
            Due.same("rows and result", Columns.ids(x) + Columns.result(x), rest);
            wrongNumber(x, 3);
        }
        CrackedColumn y = fourCuts();
        y.forgetCut(1);
        y.forgetCut(1);
        Due.same("two forgotten", Columns.cuts(y), "cuts 10 40");
        Due.is("pieceOf(2)", y.pieceOf(2), 1);
        Due.is("pieceOf(4)", y.pieceOf(4), 2);
    }

    private static void forgettingMakesRoom() {
        CrackedColumn x = new CrackedColumn(4, 4, 2);
        x.select(1, 2);
        x.select(3, 4);
        Due.same("full", Columns.cuts(x), "cuts 1 2");
        x.forgetCut(0);
        x.select(3, 4);
        Due.same("room for one", Columns.cuts(x), "cuts 2 3");
        x.forgetCut(1);
        x.forgetCut(0);
        x.select(1, 2);
        Due.same("the same cuts again", Columns.cuts(x), "cuts 1 2");
    }

    private static void forgettingFromTheGreatestNumber() {
        for (int k : new int[] {0, 7, 15}) {
            CrackedColumn x = new CrackedColumn(4, 4, 16);
            for (int v = 0; v < 16; v++) {
                x.select(v, v + 1);
            }
            Due.is("forgetCut(" + k + ") of sixteen", x.forgetCut(k), CrackedColumn.OK);
            Due.is("cutCount()", x.cutCount(), 15);
            for (int i = 0; i < 15; i++) {
                Due.is("cutValue(" + i + ")", x.cutValue(i), i < k ? i : i + 1);
            }
            wrongNumber(x, 15);
        }
    }

    private static void countsTheCuts() {
        CrackedColumn x = new CrackedColumn(4, 4, 3);
        Due.is("cutCount() at first", x.cutCount(), 0);
        x.select(1, 2);
        Due.is("cutCount() after one select", x.cutCount(), 2);
        x.select(3, 4);
        Due.is("cutCount() at cutLimit", x.cutCount(), 3);
        x.forgetCut(2);
        Due.is("cutCount() after forgetCut", x.cutCount(), 2);
    }

    private static void valuesAscendSigned() {
        CrackedColumn x = new CrackedColumn(4, 4, 16);
        x.select(0, MAX);
        x.select(-1, 1);
        x.select(MIN, 7);
        int[] want = {MIN, -1, 0, 1, 7, MAX};
        for (int k = 0; k < want.length; k++) {
            Due.is("cutValue(" + k + ")", x.cutValue(k), want[k]);
        }
        Due.is("cutValue(6)", x.cutValue(6), 0);
        Due.is("cutCount()", x.cutCount(), 6);
    }

    private static void belowCountsStoredRowsAlone() {
        CrackedColumn x = Columns.settled(5, 10, 10, 15, MIN, MAX - 1);
        x.select(10, 11);
        x.select(MIN, MAX);
        x.insert(3);
        x.delete(0);
        int[] want = {0, 2, 4, 6};
        for (int k = 0; k < want.length; k++) {
            Due.is("cutBelow(" + k + ")", x.cutBelow(k), want[k]);
        }
        CrackedColumn free = new CrackedColumn(4, 4, 4);
        free.select(1, 2);
        Due.is("cutBelow(0) over free ids", free.cutBelow(0), 0);
    }

    private static void belowAnswersForNow() {
        CrackedColumn x = Columns.settled(1, 2);
        x.select(5, 6);
        Due.is("cutBelow(0)", x.cutBelow(0), 2);
        x.insert(3);
        Due.is("cutBelow(0) after insert", x.cutBelow(0), 2);
        x.select(3, 4);
        Due.is("cutBelow(2) when the insert is applied", x.cutBelow(2), 3);
        x.delete(0);
        Due.is("cutBelow(2) after delete", x.cutBelow(2), 3);
        x.select(0, 2);
        Due.is("cutValue(4)", x.cutValue(4), 5);
        Due.is("cutBelow(4) when the delete is applied", x.cutBelow(4), 2);
    }

    private static void readingChangesNothing() {
        CrackedColumn x = Columns.oneOfEach();
        Columns.changesNothing(x, "cutCount()", 2, x::cutCount);
        Columns.changesNothing(x, "cutValue(1)", 40, () -> x.cutValue(1));
        Columns.changesNothing(x, "cutBelow(1)", 2, () -> x.cutBelow(1));
    }
}
