/** Promise 12: cutBelow. */
public final class CutBelowTest {
    private static final int MIN = Columns.MIN;
    private static final int MAX = Columns.MAX;

    public static void main(String[] args) {
        aNumberBelowZero();
        aNumberOfCutCountOrMore();
        noCutsAtAll();
        settledRowsAreCounted();
        removedRowsAreCounted();
        addedRowsAreNotCounted();
        freeIdsAreNotCounted();
        equalValuesAreNotCounted();
        theExtremesAsCuts();
        aCutOfValueZero();
        theGreatestNumbers();
        whenAnInsertIsApplied();
        whenADeleteIsApplied();
        whenADeleteIsTakenBack();
        nothingChanges();
        Due.end();
    }

    private static void below(CrackedColumn x, String want) {
        Due.same(Columns.cuts(x), Columns.below(x), "below " + want);
    }

    private static void aNumberBelowZero() {
        Due.says("12: NONE if k < 0");
        for (int k : Columns.TOO_SMALL) {
            Due.is("cutBelow(" + k + ")", Columns.sixteenCuts(1, 2).cutBelow(k), CrackedColumn.NONE);
        }
    }

    private static void aNumberOfCutCountOrMore() {
        Due.says("12: NONE if k >= cutCount()");
        for (int k : Columns.TOO_LARGE) {
            Due.is("cutBelow(" + k + ")", Columns.sixteenCuts(1, 2).cutBelow(k), CrackedColumn.NONE);
        }
        Due.is("cutBelow(15) of sixteen", Columns.sixteenCuts(1, 2).cutBelow(15), 2);
        Due.is("cutBelow(16) of sixteen", Columns.sixteenCuts(1, 2).cutBelow(16), CrackedColumn.NONE);
        Due.is("cutBelow(2) of two", Columns.oneOfEach().cutBelow(2), CrackedColumn.NONE);
        Due.is("cutBelow(4) of two, cutLimit 4", Columns.oneOfEach().cutBelow(4), CrackedColumn.NONE);
        CrackedColumn x = Columns.oneOfEach();
        x.forgetCut(0);
        Due.is("cutBelow(1), forgotten", x.cutBelow(1), CrackedColumn.NONE);
    }

    private static void noCutsAtAll() {
        Due.says("12: NONE if k >= cutCount() (no cuts at all)");
        for (int k = -1; k <= 17; k++) {
            Due.is("cutBelow(" + k + ")", new CrackedColumn(4, 4, 4).cutBelow(k), CrackedColumn.NONE);
            Due.is("cutBelow(" + k + ")", Columns.settled(3, 4).cutBelow(k), CrackedColumn.NONE);
        }
    }

    private static void settledRowsAreCounted() {
        Due.says("12: the number of stored rows (SETTLED) whose value is smaller than the value of cut number k");
        CrackedColumn x = Columns.settled(5, 12, 25, -3, 12);
        x.select(10, 20);
        below(x, "2 4");
        x.select(-3, 100);
        below(x, "0 2 4 5");
    }

    private static void removedRowsAreCounted() {
        Due.says("12: the number of stored rows (REMOVED) whose value is smaller than the value of cut number k");
        CrackedColumn x = Columns.removed(5, 6, 30);
        x.select(10, 20);
        below(x, "2 2");
    }

    private static void addedRowsAreNotCounted() {
        Due.says("12: nor are ADDED rows");
        CrackedColumn x = Columns.added(5, 6, 30);
        x.select(10, 20);
        below(x, "0 0");
        CrackedColumn y = Columns.oneOfEach();
        y.insert(1);
        below(y, "0 2");
    }

    private static void freeIdsAreNotCounted() {
        Due.says("12: the number of stored rows (an id that is FREE has no value, not the value 0)");
        CrackedColumn x = new CrackedColumn(32, 16, 16);
        x.select(1, 2);
        below(x, "0 0");
        CrackedColumn y = Columns.removed(0, 3);
        y.select(-1, 5);
        below(y, "0 0");
    }

    private static void equalValuesAreNotCounted() {
        Due.says("12: rows whose value equals the cut's value are not counted");
        CrackedColumn x = Columns.settled(9, 10, 10, 11);
        x.delete(2);
        x.select(20, 30);
        x.select(8, 9);
        x.forgetCut(0);
        below(x, "0 4 4");
        x.select(11, 12);
        below(x, "0 3 4 4 4");
        CrackedColumn y = Columns.settled(10, 20);
        y.select(10, 20);
        below(y, "0 1");
        CrackedColumn z = Columns.removed(10, 20);
        z.select(20, 21);
        z.select(5, 10);
        below(z, "0 0 1 1");
    }

    private static void theExtremesAsCuts() {
        Due.says("12: smaller than the value of cut number k (-2147483648 and 2147483647)");
        CrackedColumn x = Columns.settled(MIN, MIN, -1, 0, 1, MAX - 1);
        x.select(MIN, MAX);
        below(x, "0 6");
        x.select(MIN + 1, MAX - 1);
        below(x, "0 2 5 6");
    }

    private static void aCutOfValueZero() {
        Due.says("12: smaller than the value of cut number k (0)");
        CrackedColumn x = Columns.settled(-1, 0, 1, MIN, MAX - 1);
        x.select(0, 1);
        below(x, "2 3");
    }

    private static void theGreatestNumbers() {
        Due.says("12: the number of stored rows (32 rows, sixteen cuts)");
        CrackedColumn x = Columns.thirtyTwo(7);
        for (int v = 0; v < 16; v++) {
            x.select(v, v + 1);
        }
        below(x, "0 0 0 0 0 0 0 0 32 32 32 32 32 32 32 32");
    }

    private static void whenAnInsertIsApplied() {
        Due.says("12: it always answers for the rows as they are now (an insert was applied)");
        CrackedColumn x = Columns.settled(1, 2);
        x.select(5, 6);
        x.insert(3);
        below(x, "2 2");
        x.select(3, 5);
        below(x, "2 3 3");
        x.insert(4);
        below(x, "2 3 3");
    }

    private static void whenADeleteIsApplied() {
        Due.says("12: it always answers for the rows as they are now (a delete was applied)");
        CrackedColumn x = Columns.settled(1, 2);
        x.select(5, 6);
        x.delete(0);
        below(x, "2 2");
        x.select(2, 5);
        below(x, "1 2 2");
        x.select(1, 2);
        below(x, "0 0 1 1");
    }

    private static void whenADeleteIsTakenBack() {
        Due.says("12: it always answers for the rows as they are now (a delete was taken back)");
        CrackedColumn x = Columns.removed(1, 2);
        x.select(5, 6);
        x.restore(0);
        below(x, "2 2");
        x.select(1, 5);
        below(x, "0 1 1");
    }

    private static void nothingChanges() {
        Due.says("12: nothing changes");
        CrackedColumn x = Columns.oneOfEach();
        Columns.changesNothing(x, "cutBelow(0)", 0, () -> x.cutBelow(0));
        Columns.changesNothing(x, "cutBelow(1)", 2, () -> x.cutBelow(1));
        Columns.changesNothing(x, "cutBelow(2)", CrackedColumn.NONE, () -> x.cutBelow(2));
        Columns.changesNothing(x, "cutBelow(-1)", CrackedColumn.NONE, () -> x.cutBelow(-1));
    }
}
