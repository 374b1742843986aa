/** Promise 9: forgetCut. */
public final class ForgetCutTest {
    private static final int MIN = Columns.MIN;
    private static final int MAX = Columns.MAX;

    public static void main(String[] args) {
        aNumberBelowZero();
        aNumberOfCutCountOrMore();
        noCutsAtAll();
        theFirstIsForgotten();
        aMiddleOneIsForgotten();
        theLastIsForgotten();
        theOnlyOneIsForgotten();
        oneOfTheGreatestNumberIsForgotten();
        moreCutsThanTheOtherLimits();
        extremesAreForgotten();
        roomForOneMore();
        theSameValueAgain();
        theRestStays();
        piecesFollow();
        Due.end();
    }

    private static void refused(CrackedColumn x, int k) {
        Columns.changesNothing(x, "forgetCut(" + k + ")", CrackedColumn.NO_CUT, () -> x.forgetCut(k));
    }

    /** Rows 5, 15, 25, 35, 45 and the cuts 10, 20, 30, 40, which is also cutLimit. */
    private static CrackedColumn fourCuts() {
        CrackedColumn x = new CrackedColumn(8, 8, 4);
        Columns.insertAll(x, 5, 15, 25, 35, 45);
        x.select(10, 40);
        x.select(20, 30);
        return x;
    }

    private static void forgets(CrackedColumn x, int k, String left) {
        Due.is("forgetCut(" + k + ")", x.forgetCut(k), CrackedColumn.OK);
        Due.same("left", Columns.cuts(x), left);
    }

    private static void aNumberBelowZero() {
        Due.says("9.1: k < 0: answers NO_CUT");
        for (int k : Columns.TOO_SMALL) {
            refused(fourCuts(), k);
            refused(Columns.sixteenCuts(1, 2), k);
        }
    }

    private static void aNumberOfCutCountOrMore() {
        Due.says("9.1: k >= cutCount(): answers NO_CUT");
        for (int k : Columns.TOO_LARGE) {
            refused(fourCuts(), k);
        }
        refused(fourCuts(), 4);
        refused(fourCuts(), 5);
        refused(Columns.sixteenCuts(1, 2), 16);
        // 2 is cutCount, 4 is cutLimit.
        refused(Columns.oneOfEach(), 2);
        refused(Columns.oneOfEach(), 3);
        refused(Columns.oneOfEach(), 4);
        CrackedColumn x = fourCuts();
        x.forgetCut(0);
        refused(x, 3);
    }

    private static void noCutsAtAll() {
        Due.says("9.1: with no cuts this holds for every k");
        for (int k = -2; k <= 34; k++) {
            refused(new CrackedColumn(4, 4, 4), k);
            refused(Columns.settled(1, 2), k);
        }
        refused(Columns.settled(1, 2), MIN);
        refused(Columns.settled(1, 2), MAX);
    }

    private static void theFirstIsForgotten() {
        Due.says("9: that cut is taken out of the set, and cuts above it are then numbered one less (the first)");
        forgets(fourCuts(), 0, "cuts 20 30 40");
    }

    private static void aMiddleOneIsForgotten() {
        Due.says("9: that cut is taken out of the set, and cuts above it are then numbered one less (in the middle)");
        forgets(fourCuts(), 1, "cuts 10 30 40");
        forgets(fourCuts(), 2, "cuts 10 20 40");
        CrackedColumn x = fourCuts();
        forgets(x, 1, "cuts 10 30 40");
        forgets(x, 1, "cuts 10 40");
    }

    private static void theLastIsForgotten() {
        Due.says("9: that cut is taken out of the set (the last)");
        CrackedColumn x = fourCuts();
        forgets(x, 3, "cuts 10 20 30");
        forgets(x, 2, "cuts 10 20");
    }

    private static void theOnlyOneIsForgotten() {
        Due.says("9: that cut is taken out of the set (the only one)");
        CrackedColumn x = new CrackedColumn(4, 4, 1);
        x.select(5, 9);
        forgets(x, 0, "cuts");
        refused(x, 0);
    }

    private static void oneOfTheGreatestNumberIsForgotten() {
        Due.says("9: that cut is taken out of the set (one of sixteen)");
        for (int k = 0; k < 16; k++) {
            CrackedColumn x = Columns.sixteenCuts();
            Due.is("forgetCut(" + k + ") of sixteen", x.forgetCut(k), CrackedColumn.OK);
            Due.is("cutCount()", x.cutCount(), 15);
            for (int i = 0; i < 15; i++) {
                Due.is("cutValue(" + i + ")", x.cutValue(i), i < k ? i : i + 1);
            }
            refused(x, 15);
        }
    }

    private static void moreCutsThanTheOtherLimits() {
        Due.says("9: cuts above it are then numbered one less (more cuts than rowLimit and pendingLimit)");
        CrackedColumn x = new CrackedColumn(4, 1, 16);
        for (int v = 0; v < 16; v++) {
            x.select(v, v + 1);
        }
        forgets(x, 0, "cuts 1 2 3 4 5 6 7 8 9 10 11 12 13 14 15");
        forgets(x, 13, "cuts 1 2 3 4 5 6 7 8 9 10 11 12 13 15");
        forgets(x, 6, "cuts 1 2 3 4 5 6 8 9 10 11 12 13 15");
    }

    private static void extremesAreForgotten() {
        Due.says("9: that cut is taken out of the set (-2147483648, 0, 2147483647)");
        CrackedColumn x = new CrackedColumn(4, 4, 4);
        x.select(MIN, MAX);
        x.select(0, 1);
        forgets(x, 1, "cuts -2147483648 1 2147483647");
        forgets(x, 2, "cuts -2147483648 1");
        forgets(x, 0, "cuts 1");
    }

    private static void roomForOneMore() {
        Due.says("9: there is then room for one cut more");
        CrackedColumn x = fourCuts();
        x.select(50, 60);
        Due.same("full", Columns.cuts(x), "cuts 10 20 30 40");
        x.forgetCut(1);
        x.select(50, 60);
        Due.same("room for one", Columns.cuts(x), "cuts 10 30 40 50");
        x.forgetCut(0);
        x.forgetCut(0);
        x.select(1, 2);
        Due.same("room for two", Columns.cuts(x), "cuts 1 2 40 50");
    }

    private static void theSameValueAgain() {
        Due.says("9: a later select can make the same value a cut again");
        for (int k = 0; k < 4; k++) {
            CrackedColumn x = fourCuts();
            int value = x.cutValue(k);
            x.forgetCut(k);
            x.select(value, MAX);
            Due.same("as lo", Columns.cuts(x), "cuts 10 20 30 40");
        }
        for (int k = 1; k < 4; k++) {
            CrackedColumn x = fourCuts();
            int value = x.cutValue(k);
            x.forgetCut(k);
            // 10 is a cut, so that hi takes the room.
            x.select(10, value);
            Due.same("as hi", Columns.cuts(x), "cuts 10 20 30 40");
        }
        CrackedColumn y = new CrackedColumn(4, 4, 2);
        y.select(0, 5);
        y.forgetCut(0);
        y.select(0, 5);
        Due.same("0 again", Columns.cuts(y), "cuts 0 5");
        y.forgetCut(1);
        y.select(0, 5);
        Due.same("5 again", Columns.cuts(y), "cuts 0 5");
    }

    private static void theRestStays() {
        Due.says("9: rows, pending updates and the result stay as they are, so do the values of the remaining cuts");
        CrackedColumn x = Columns.oneOfEach();
        forgets(x, 0, "cuts 40");
        Due.same("rows", Columns.rows(x), "S10 A20 R30");
        Due.same("result", Columns.result(x), "result 0 2 sum 40");
        Due.is("storedCount()", x.storedCount(), 2);
        Due.is("pendingCount()", x.pendingCount(), 2);
        Due.is("count(10, 40)", x.count(10, 40), 2);
    }

    private static void piecesFollow() {
        Due.says("9: cuts above it are then numbered one less (cutBelow and pieceOf answer for those left)");
        CrackedColumn x = fourCuts();
        x.select(MIN, MAX);
        Due.same("below", Columns.below(x), "below 1 2 3 4");
        Due.same("pieces", Columns.pieces(x, 5), "pieces 0 1 2 3 4");
        x.forgetCut(1);
        Due.same("below", Columns.below(x), "below 1 3 4");
        Due.same("pieces", Columns.pieces(x, 5), "pieces 0 1 1 2 3");
    }
}
