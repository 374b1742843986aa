/** Promise 10: cutCount. */
public final class CutCountTest {
    public static void main(String[] args) {
        zeroAtFirst();
        countsTheCuts();
        reachesCutLimit();
        oneLessWhenForgotten();
        nothingChanges();
        Due.end();
    }

    private static void zeroAtFirst() {
        Due.says("10: the number of cuts, from 0");
        CrackedColumn x = new CrackedColumn(4, 4, 4);
        Due.is("cutCount()", x.cutCount(), 0);
        x.insert(5);
        x.count(5, 6);
        x.select(6, 5);
        Due.is("cutCount() without an accepted select", x.cutCount(), 0);
    }

    private static void countsTheCuts() {
        Due.says("10: the number of cuts");
        CrackedColumn x = new CrackedColumn(4, 4, 16);
        x.select(1, 2);
        Due.is("cutCount() of two new bounds", x.cutCount(), 2);
        x.select(2, 3);
        Due.is("cutCount() of one new bound", x.cutCount(), 3);
        x.select(1, 3);
        Due.is("cutCount() of no new bound", x.cutCount(), 3);
        x.select(Columns.MIN, Columns.MAX);
        Due.is("cutCount() with the extremes", x.cutCount(), 5);
    }

    private static void reachesCutLimit() {
        Due.says("10: from 0 to cutLimit");
        for (int cutLimit = 1; cutLimit <= 16; cutLimit++) {
            CrackedColumn x = new CrackedColumn(4, 4, cutLimit);
            for (int v = 0; v < 16; v++) {
                x.select(v, v + 1);
                Due.is("cutCount()", x.cutCount(), Math.min(v + 2, cutLimit));
            }
            x.select(50, 60);
            Due.is("cutCount() at cutLimit", x.cutCount(), cutLimit);
        }
    }

    private static void oneLessWhenForgotten() {
        Due.says("10: the number of cuts (after forgetCut, accepted and refused)");
        CrackedColumn x = Columns.sixteenCuts();
        for (int left = 15; left >= 0; left--) {
            x.forgetCut(left / 2);
            Due.is("cutCount()", x.cutCount(), left);
        }
        x.forgetCut(0);
        Due.is("cutCount() after a refused forgetCut", x.cutCount(), 0);
    }

    private static void nothingChanges() {
        Due.says("10: nothing changes");
        CrackedColumn x = Columns.oneOfEach();
        Columns.changesNothing(x, "cutCount()", 2, x::cutCount);
    }
}
