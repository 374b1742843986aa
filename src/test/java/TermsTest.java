/** Terms and common rules, which hold for all promises. */
public final class TermsTest {
    private static final int MIN = Columns.MIN;
    private static final int MAX = Columns.MAX;

    public static void main(String[] args) {
        limitsAreTheClampedOnes();
        eachStateIsWhatTheTermsSay();
        cutsAreDifferentAndAscend();
        anEmptyAnswerIsAccepted();
        aBadRangeIsNotAccepted();
        comparisonsAreSigned();
        insideIsFromLoToBelowHi();
        rowsMayHaveEqualValues();
        readingChangesNothing();
        refusedCallsChangeNothing();
        columnsAreApart();
        Due.end();
    }

    private static void limitsAreTheClampedOnes() {
        Due.says("Terms: these names mean the values after clamping");
        CrackedColumn small = new CrackedColumn(-5, -5, -5);
        small.insert(7);
        Due.is("insert(8) with one pending", small.insert(8), CrackedColumn.PENDING_FULL);
        Due.is("delete(4)", small.delete(4), CrackedColumn.NO_ROW);
        Due.is("restore(4)", small.restore(4), CrackedColumn.NO_ROW);
        Due.is("rowState(3)", small.rowState(3), CrackedColumn.FREE);
        Due.is("rowState(4)", small.rowState(4), CrackedColumn.NONE);
        small.select(1, 2);
        Due.same("one cut", Columns.cuts(small), "cuts 1");
        CrackedColumn large = new CrackedColumn(100, 100, 100);
        Due.is("rowState(31)", large.rowState(31), CrackedColumn.FREE);
        Due.is("rowState(32)", large.rowState(32), CrackedColumn.NONE);
        Due.is("delete(32)", large.delete(32), CrackedColumn.NO_ROW);
    }

    private static void eachStateIsWhatTheTermsSay() {
        Due.says("Terms: live means ADDED or SETTLED; stored means SETTLED or REMOVED; pending means ADDED or REMOVED");
        Due.same("ADDED", liveStoredPending(Columns.added(5)), "1 0 1");
        Due.same("SETTLED", liveStoredPending(Columns.settled(5)), "1 1 0");
        Due.same("REMOVED", liveStoredPending(Columns.removed(5)), "0 1 1");
        CrackedColumn free = Columns.added(5);
        free.delete(0);
        Due.same("FREE", liveStoredPending(free), "0 0 0");
    }

    private static String liveStoredPending(CrackedColumn x) {
        return x.count(MIN, MAX) + " " + x.storedCount() + " " + x.pendingCount();
    }

    private static void cutsAreDifferentAndAscend() {
        Due.says("Terms: a set of at most cutLimit different ints, numbered from 0 in ascending order of their values");
        CrackedColumn x = new CrackedColumn(4, 4, 5);
        x.select(50, 60);
        x.select(10, 60);
        x.select(10, 50);
        x.select(30, 60);
        Due.same("four different", Columns.cuts(x), "cuts 10 30 50 60");
        x.select(20, 40);
        Due.same("at most five", Columns.cuts(x), "cuts 10 20 30 50 60");
    }

    private static void anEmptyAnswerIsAccepted() {
        Due.says("Terms: a select is accepted exactly if it does not answer BAD_RANGE (one that finds no row is)");
        CrackedColumn x = Columns.settled(1, 2);
        Due.is("select(8, 9)", x.select(8, 9), 0);
        Due.same("result", Columns.result(x), "result sum 0");
    }

    private static void aBadRangeIsNotAccepted() {
        Due.says("Terms: no call but an accepted select changes the result");
        CrackedColumn x = Columns.settled(1, 2);
        for (int[] r : Columns.BAD_RANGES) {
            Due.is("select(" + r[0] + ", " + r[1] + ")", x.select(r[0], r[1]), CrackedColumn.BAD_RANGE);
            Due.same("result", Columns.result(x), "result 0 1 sum 3");
        }
    }

    private static void comparisonsAreSigned() {
        Due.says("Terms: all comparisons are of signed ints");
        CrackedColumn x = Columns.settled(-1, 1, MIN, MAX - 1, 0);
        Due.is("count(-1, 1)", x.count(-1, 1), 2);
        Due.is("count(MIN, 0)", x.count(MIN, 0), 2);
        Due.is("count(0, MAX)", x.count(0, MAX), 3);
        Due.is("count(MIN, MAX)", x.count(MIN, MAX), 5);
        Due.is("select(-2, 2)", x.select(-2, 2), 3);
        Due.is("select(MIN, MAX)", x.select(MIN, MAX), 5);
        Due.same("cuts", Columns.cuts(x), "cuts -2147483648 -2 2 2147483647");
        Due.same("below", Columns.below(x), "below 0 1 4 5");
        Due.same("pieces", Columns.pieces(x, 5), "pieces 2 2 1 3 2");
    }

    private static void insideIsFromLoToBelowHi() {
        Due.says("Terms: a value v is inside the range lo, hi exactly if lo <= v and v < hi");
        for (int v : new int[] {MIN + 1, -8, -1, 0, 1, 8, MAX - 1}) {
            CrackedColumn x = Columns.settled(v);
            Due.is("count just around " + v, x.count(v, v + 1), 1);
            Due.is("count up to " + v, x.count(v - 1, v), 0);
            Due.is("select just around " + v, x.select(v, v + 1), 1);
            Due.is("select up to " + v, x.select(v - 1, v), 0);
        }
    }

    private static void rowsMayHaveEqualValues() {
        Due.says("Terms: two rows may have equal values");
        CrackedColumn x = Columns.added(5, 5, 5);
        Due.is("select(5, 6)", x.select(5, 6), 3);
        x.delete(1);
        Due.same("one deleted", Columns.rows(x), "S5 R5 S5");
        x.insert(5);
        Due.is("select(5, 6) again", x.select(5, 6), 3);
        Due.same("rows", Columns.rows(x), "S5 - S5 S5");
        Due.same("result", Columns.result(x), "result 0 2 3 sum 15");
    }

    private static void readingChangesNothing() {
        Due.says("Terms: calls not said to change anything change nothing");
        // The twin is never read before the end, so that a read with an effect makes a difference.
        CrackedColumn read = new CrackedColumn(5, 3, 3);
        CrackedColumn twin = new CrackedColumn(5, 3, 3);
        for (int step = 0; step < 400; step++) {
            Columns.readEverything(read);
            Due.is("step " + step, changingCall(read, step), changingCall(twin, step));
        }
        Due.same("all", Columns.all(read), Columns.all(twin));
    }

    private static int changingCall(CrackedColumn x, int step) {
        int n = step * 7 + step / 5;
        switch (step % 6) {
            case 0:
            case 1:
                return x.insert(n % 11);
            case 2:
                return x.select(n % 9, n % 13);
            case 3:
                return x.delete(n % 5);
            case 4:
                return step % 4 == 0 ? x.restore(n % 5) : x.delete(n % 4);
            default:
                return step % 3 == 0 ? x.forgetCut(n % 3) : x.select(n % 4, n % 4 + n % 6);
        }
    }

    private static void refusedCallsChangeNothing() {
        Due.says("Terms: the first condition that applies gives the answer, and then nothing changes");
        CrackedColumn x = Columns.oneOfEach();
        x.insert(11);
        x.insert(12);
        Columns.changesNothing(x, "insert(MAX)", CrackedColumn.BAD_VALUE, () -> x.insert(MAX));
        Columns.changesNothing(x, "insert(1)", CrackedColumn.PENDING_FULL, () -> x.insert(1));
        Columns.changesNothing(x, "delete(0)", CrackedColumn.PENDING_FULL, () -> x.delete(0));
        Columns.changesNothing(x, "delete(2)", CrackedColumn.NO_ROW, () -> x.delete(2));
        Columns.changesNothing(x, "restore(0)", CrackedColumn.NO_ROW, () -> x.restore(0));
        Columns.changesNothing(x, "select(9, 9)", CrackedColumn.BAD_RANGE, () -> x.select(9, 9));
        Columns.changesNothing(x, "count(9, 9)", CrackedColumn.BAD_RANGE, () -> x.count(9, 9));
        Columns.changesNothing(x, "forgetCut(2)", CrackedColumn.NO_CUT, () -> x.forgetCut(2));
    }

    private static void columnsAreApart() {
        Due.says("Terms: the visible state is a column's own");
        CrackedColumn one = Columns.oneOfEach();
        String before = Columns.all(one);
        CrackedColumn other = Columns.sixteenCuts(1, 2, 3);
        other.delete(0);
        other.insert(77);
        Due.same("the first column", Columns.all(one), before);
    }
}
