/** Promise 5, step b: the bounds of a select become cuts while there is room. */
public final class SelectCutsTest {
    private static final int MIN = Columns.MIN;
    private static final int MAX = Columns.MAX;

    public static void main(String[] args) {
        bothBoundsBecomeCuts();
        roomForJustTwo();
        roomForOneAndBothNew();
        roomForOneAndLoKnown();
        roomForOneAndHiKnown();
        roomForOneAndBothKnown();
        cutLimitOfOne();
        noRoomAndBothNew();
        noRoomAndOneKnown();
        noRoomChangesNothingElse();
        knownBoundsAddNothing();
        theExtremesMayBeCuts();
        zeroMayBeACut();
        noCutIsTakenAway();
        cutsAboveAreNumberedOneMore();
        theGreatestNumberOfCuts();
        cutsComeWithoutRows();
        Due.end();
    }

    /** A column with the cuts 10 and 20, the given limit, and rows 1, 2, 3 that are ADDED. */
    private static CrackedColumn tenAndTwenty(int cutLimit) {
        CrackedColumn x = new CrackedColumn(4, 4, cutLimit);
        x.select(10, 20);
        Columns.insertAll(x, 1, 2, 3);
        return x;
    }

    private static void cutsAfter(CrackedColumn x, int lo, int hi, String want) {
        x.select(lo, hi);
        Due.same("after select(" + lo + ", " + hi + ")", Columns.cuts(x), "cuts " + want);
    }

    private static void bothBoundsBecomeCuts() {
        Due.says("5b: lo becomes a cut, then hi becomes a cut");
        cutsAfter(new CrackedColumn(4, 4, 16), 5, 9, "5 9");
        cutsAfter(tenAndTwenty(16), 1, 2, "1 2 10 20");
        cutsAfter(tenAndTwenty(16), 12, 13, "10 12 13 20");
        cutsAfter(tenAndTwenty(16), 30, 40, "10 20 30 40");
        cutsAfter(tenAndTwenty(16), 1, 40, "1 10 20 40");
        cutsAfter(tenAndTwenty(16), 1, 15, "1 10 15 20");
        cutsAfter(tenAndTwenty(16), 15, 30, "10 15 20 30");
    }

    private static void roomForJustTwo() {
        Due.says("5b: fewer than cutLimit cuts (lo counted if it was just added): room for both");
        cutsAfter(new CrackedColumn(4, 4, 2), 5, 9, "5 9");
        cutsAfter(tenAndTwenty(4), 5, 9, "5 9 10 20");
    }

    private static void roomForOneAndBothNew() {
        Due.says("5b: with room for just one cut, lo takes it if lo is not yet a cut");
        cutsAfter(tenAndTwenty(3), 1, 3, "1 10 20");
        cutsAfter(tenAndTwenty(3), 12, 13, "10 12 20");
        cutsAfter(tenAndTwenty(3), 30, 40, "10 20 30");
        cutsAfter(new CrackedColumn(4, 4, 1), 5, 9, "5");
    }

    private static void roomForOneAndLoKnown() {
        Due.says("5b: with room for just one cut, if lo already is a cut, a new hi takes it");
        cutsAfter(tenAndTwenty(3), 10, 15, "10 15 20");
        cutsAfter(tenAndTwenty(3), 10, 25, "10 20 25");
        cutsAfter(tenAndTwenty(3), 20, 25, "10 20 25");
    }

    private static void roomForOneAndHiKnown() {
        Due.says("5b: with room for just one cut, lo takes it if lo is not yet a cut (hi is one already)");
        cutsAfter(tenAndTwenty(3), 1, 10, "1 10 20");
        cutsAfter(tenAndTwenty(3), 1, 20, "1 10 20");
        cutsAfter(tenAndTwenty(3), 15, 20, "10 15 20");
    }

    private static void roomForOneAndBothKnown() {
        Due.says("5b: a bound that is already a cut adds nothing (the room stays)");
        CrackedColumn x = tenAndTwenty(3);
        cutsAfter(x, 10, 20, "10 20");
        cutsAfter(x, 10, 11, "10 11 20");
    }

    private static void cutLimitOfOne() {
        Due.says("5b: if there are fewer than cutLimit cuts (cutLimit is 1)");
        CrackedColumn x = new CrackedColumn(4, 4, 1);
        cutsAfter(x, 5, 9, "5");
        cutsAfter(x, 5, 9, "5");
        cutsAfter(x, 9, 12, "5");
        cutsAfter(x, 1, 5, "5");
        x.forgetCut(0);
        cutsAfter(x, 9, 12, "9");
    }

    private static void noRoomAndBothNew() {
        Due.says("5b: a bound for which there is no room is passed over (both new)");
        cutsAfter(tenAndTwenty(2), 1, 3, "10 20");
        cutsAfter(tenAndTwenty(2), 12, 13, "10 20");
        cutsAfter(tenAndTwenty(2), 30, 40, "10 20");
    }

    private static void noRoomAndOneKnown() {
        Due.says("5b: a bound for which there is no room is passed over (the other one known)");
        cutsAfter(tenAndTwenty(2), 10, 15, "10 20");
        cutsAfter(tenAndTwenty(2), 15, 20, "10 20");
        cutsAfter(tenAndTwenty(2), 10, 20, "10 20");
        cutsAfter(tenAndTwenty(2), 20, 30, "10 20");
        cutsAfter(tenAndTwenty(2), 1, 10, "10 20");
    }

    private static void noRoomChangesNothingElse() {
        Due.says("5b: this changes nothing else in this call, and the call is not refused");
        CrackedColumn x = tenAndTwenty(2);
        Due.is("select(1, 3)", x.select(1, 3), 2);
        Due.same("rows", Columns.rows(x), "S1 S2 A3");
        Due.same("the rest", Columns.rest(x), "cuts 10 20 | below 2 2 | result 0 1 sum 3");
        x.delete(0);
        Due.is("select(1, 3) again", x.select(1, 3), 1);
        Due.same("rows", Columns.rows(x), "- S2 A3");
        CrackedColumn one = tenAndTwenty(3);
        Due.is("select(1, 3) with room for lo alone", one.select(1, 3), 2);
        Due.same("rows", Columns.rows(one), "S1 S2 A3");
        Due.same("the rest", Columns.rest(one), "cuts 1 10 20 | below 0 2 2 | result 0 1 sum 3");
    }

    private static void knownBoundsAddNothing() {
        Due.says("5b: a bound that is already a cut adds nothing");
        CrackedColumn x = tenAndTwenty(16);
        cutsAfter(x, 10, 20, "10 20");
        cutsAfter(x, 20, 30, "10 20 30");
        cutsAfter(x, 5, 10, "5 10 20 30");
        cutsAfter(x, 5, 30, "5 10 20 30");
        // A lo may have been a hi before, and the other way round.
        cutsAfter(x, 30, 31, "5 10 20 30 31");
        cutsAfter(x, 4, 5, "4 5 10 20 30 31");
    }

    private static void theExtremesMayBeCuts() {
        Due.says("5b: any int may be a cut, -2147483648 and 2147483647 included");
        CrackedColumn x = new CrackedColumn(4, 4, 16);
        cutsAfter(x, MIN, MAX, "-2147483648 2147483647");
        cutsAfter(x, MIN, MAX, "-2147483648 2147483647");
        cutsAfter(x, MIN, MIN + 1, "-2147483648 -2147483647 2147483647");
        cutsAfter(x, MAX - 1, MAX, "-2147483648 -2147483647 2147483646 2147483647");
        cutsAfter(new CrackedColumn(4, 4, 1), MIN, MAX, "-2147483648");
        CrackedColumn y = tenAndTwenty(16);
        cutsAfter(y, MIN, 10, "-2147483648 10 20");
        cutsAfter(y, 20, MAX, "-2147483648 10 20 2147483647");
    }

    private static void zeroMayBeACut() {
        Due.says("5b: any int may be a cut (0, as lo and as hi)");
        cutsAfter(new CrackedColumn(4, 4, 2), 0, 5, "0 5");
        cutsAfter(new CrackedColumn(4, 4, 2), -5, 0, "-5 0");
        CrackedColumn x = new CrackedColumn(4, 4, 4);
        x.select(0, 5);
        cutsAfter(x, 0, 5, "0 5");
        cutsAfter(x, -5, 0, "-5 0 5");
    }

    private static void noCutIsTakenAway() {
        Due.says("5b: no cut is taken away");
        CrackedColumn x = tenAndTwenty(16);
        cutsAfter(x, 5, 30, "5 10 20 30");
        cutsAfter(x, MIN, MAX, "-2147483648 5 10 20 30 2147483647");
        cutsAfter(x, 50, 60, "-2147483648 5 10 20 30 50 60 2147483647");
    }

    private static void cutsAboveAreNumberedOneMore() {
        Due.says("5b: cuts above a new one are numbered one more");
        CrackedColumn x = tenAndTwenty(16);
        x.select(10, 15);
        Due.is("cutValue(0)", x.cutValue(0), 10);
        Due.is("cutValue(1)", x.cutValue(1), 15);
        Due.is("cutValue(2)", x.cutValue(2), 20);
        x.select(5, 7);
        Due.is("cutValue(2), two more below", x.cutValue(2), 10);
        Due.is("cutValue(4), two more below", x.cutValue(4), 20);
    }

    private static void theGreatestNumberOfCuts() {
        Due.says("5b: if there are fewer than cutLimit cuts (cutLimit is 16)");
        CrackedColumn up = new CrackedColumn(4, 4, 16);
        for (int v = 0; v < 40; v += 2) {
            up.select(v, v + 1);
        }
        Due.same("from below", Columns.cuts(up), "cuts 0 1 2 3 4 5 6 7 8 9 10 11 12 13 14 15");
        cutsAfter(up, -2, -1, "0 1 2 3 4 5 6 7 8 9 10 11 12 13 14 15");
        CrackedColumn down = new CrackedColumn(4, 4, 16);
        for (int v = 15; v > -9; v--) {
            down.select(v, v + 1);
        }
        Due.same("from above", Columns.cuts(down), "cuts 1 2 3 4 5 6 7 8 9 10 11 12 13 14 15 16");
        down.forgetCut(15);
        cutsAfter(down, 0, 16, "0 1 2 3 4 5 6 7 8 9 10 11 12 13 14 15");
    }

    private static void cutsComeWithoutRows() {
        Due.says("5: if it is 0, the result is the empty set and its sum is 0; cuts are still added as in b");
        CrackedColumn x = Columns.settled(1, 2);
        Due.is("select(8, 9)", x.select(8, 9), 0);
        Due.same("the rest", Columns.rest(x), "cuts 8 9 | below 2 2 | result sum 0");
        CrackedColumn empty = new CrackedColumn(4, 4, 4);
        Due.is("select(8, 9), no rows at all", empty.select(8, 9), 0);
        Due.same("the rest", Columns.rest(empty), "cuts 8 9 | below 0 0 | result sum 0");
    }
}
