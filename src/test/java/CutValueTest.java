/** Promise 11: cutValue. */
public final class CutValueTest {
    private static final int MIN = Columns.MIN;
    private static final int MAX = Columns.MAX;

    public static void main(String[] args) {
        valuesAscendSigned();
        aNumberBelowZero();
        aNumberOfCutCountOrMore();
        noCutsAtAll();
        aForgottenValue();
        aCutOfValueZero();
        theGreatestNumberOfCuts();
        nothingChanges();
        Due.end();
    }

    private static void valuesAscendSigned() {
        Due.says("11: counted from 0 in ascending order of the cuts' signed values");
        CrackedColumn x = new CrackedColumn(4, 4, 16);
        x.select(0, MAX);
        x.select(-1, 1);
        x.select(MIN, 7);
        int[] want = {MIN, -1, 0, 1, 7, MAX};
        for (int k = 0; k < want.length; k++) {
            Due.is("cutValue(" + k + ")", x.cutValue(k), want[k]);
        }
    }

    private static void aNumberBelowZero() {
        Due.says("11: 0 if k < 0");
        CrackedColumn x = Columns.sixteenCuts();
        x.forgetCut(0);
        for (int k : Columns.TOO_SMALL) {
            Due.is("cutValue(" + k + ")", x.cutValue(k), 0);
        }
    }

    private static void aNumberOfCutCountOrMore() {
        Due.says("11: 0 if k >= cutCount()");
        for (int k : Columns.TOO_LARGE) {
            Due.is("cutValue(" + k + ")", Columns.sixteenCuts().cutValue(k), 0);
            Due.is("cutValue(" + k + ")", Columns.oneOfEach().cutValue(k), 0);
        }
        Due.is("cutValue(15) of sixteen", Columns.sixteenCuts().cutValue(15), 15);
        Due.is("cutValue(16) of sixteen", Columns.sixteenCuts().cutValue(16), 0);
        Due.is("cutValue(1) of two", Columns.oneOfEach().cutValue(1), 40);
        Due.is("cutValue(2) of two", Columns.oneOfEach().cutValue(2), 0);
        Due.is("cutValue(4) of two, cutLimit 4", Columns.oneOfEach().cutValue(4), 0);
    }

    private static void noCutsAtAll() {
        Due.says("11: 0 if k >= cutCount() (no cuts at all)");
        for (int k = -1; k <= 17; k++) {
            Due.is("cutValue(" + k + ")", new CrackedColumn(4, 4, 4).cutValue(k), 0);
            Due.is("cutValue(" + k + ")", Columns.settled(3, 4).cutValue(k), 0);
        }
    }

    private static void aForgottenValue() {
        Due.says("11: 0 if k >= cutCount() (a cut was there and is forgotten)");
        CrackedColumn x = Columns.sixteenCuts();
        for (int left = 15; left >= 0; left--) {
            x.forgetCut(0);
            Due.is("cutValue(" + left + ")", x.cutValue(left), 0);
        }
        CrackedColumn y = Columns.oneOfEach();
        y.forgetCut(1);
        Due.is("cutValue(1)", y.cutValue(1), 0);
    }

    private static void aCutOfValueZero() {
        Due.says("11: a cut whose value is 0 also gives 0");
        CrackedColumn x = new CrackedColumn(4, 4, 4);
        x.select(0, 5);
        Due.is("cutValue(0)", x.cutValue(0), 0);
        Due.is("cutValue(1)", x.cutValue(1), 5);
        x.select(-5, 0);
        Due.is("cutCount()", x.cutCount(), 3);
        Due.is("cutValue(1)", x.cutValue(1), 0);
        Due.is("cutBelow(1)", x.cutBelow(1), 0);
    }

    private static void theGreatestNumberOfCuts() {
        Due.says("11: the value of cut number k (sixteen cuts)");
        CrackedColumn x = Columns.sixteenCuts();
        for (int k = 0; k < 16; k++) {
            Due.is("cutValue(" + k + ")", x.cutValue(k), k);
        }
    }

    private static void nothingChanges() {
        Due.says("11: nothing changes");
        CrackedColumn x = Columns.oneOfEach();
        Columns.changesNothing(x, "cutValue(0)", 10, () -> x.cutValue(0));
        Columns.changesNothing(x, "cutValue(1)", 40, () -> x.cutValue(1));
        Columns.changesNothing(x, "cutValue(2)", 0, () -> x.cutValue(2));
        Columns.changesNothing(x, "cutValue(-1)", 0, () -> x.cutValue(-1));
    }
}
