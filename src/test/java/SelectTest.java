/** Promise 5: select. */
public final class SelectTest {
    private static final int MIN = Columns.MIN;
    private static final int MAX = Columns.MAX;

    public static void main(String[] args) {
        refusesAnEmptyRange();
        appliesPendingRowsInsideAlone();
        loIsInsideAndHiIsNot();
        bothBoundsBecomeCuts();
        roomForOneCut();
        noRoomForACut();
        theExtremesMayBeCuts();
        replacesTheResult();
        freedIdsLeaveTheResultAlone();
        Due.end();
    }

    private static void refusesAnEmptyRange() {
        CrackedColumn x = Columns.oneOfEach();
        int[][] ranges = {{10, 10}, {30, 20}, {0, 0}, {MAX, MIN}, {MIN, MIN}, {MAX, MAX}, {0, MIN}, {MAX, -1}};
        for (int[] r : ranges) {
            String call = "select(" + r[0] + ", " + r[1] + ")";
            Columns.changesNothing(x, call, CrackedColumn.BAD_RANGE, () -> x.select(r[0], r[1]));
        }
    }

    private static void appliesPendingRowsInsideAlone() {
        CrackedColumn x = Columns.settled(1, 5, 9);
        for (int id = 0; id < 3; id++) {
            x.delete(id);
        }
        Columns.insertAll(x, 2, 4, 5, 7, 8);
        Due.is("select(4, 8)", x.select(4, 8), 3);
        int[] states = {CrackedColumn.REMOVED, CrackedColumn.FREE, CrackedColumn.REMOVED, CrackedColumn.ADDED,
            CrackedColumn.SETTLED, CrackedColumn.SETTLED, CrackedColumn.SETTLED, CrackedColumn.ADDED, CrackedColumn.FREE};
        int[] values = {1, 0, 9, 2, 4, 5, 7, 8, 0};
        for (int id = 0; id < states.length; id++) {
            Due.is("rowState(" + id + ")", x.rowState(id), states[id]);
            Due.is("rowValue(" + id + ")", x.rowValue(id), values[id]);
        }
        Due.is("pendingCount()", x.pendingCount(), 4);
        Due.is("storedCount()", x.storedCount(), 5);
        Due.same("result", Columns.result(x), "result 4 5 6 sum 16");
        Due.is("select(4, 8) again", x.select(4, 8), 3);
    }

    private static void loIsInsideAndHiIsNot() {
        CrackedColumn x = Columns.added(3, 4, 5, 6, MIN, MAX - 1);
        Due.is("select(4, 6)", x.select(4, 6), 2);
        Due.same("result", Columns.result(x), "result 1 2 sum 9");
        Due.is("rowState(3)", x.rowState(3), CrackedColumn.ADDED);
        Due.is("select(MIN, MIN + 1)", x.select(MIN, MIN + 1), 1);
        Due.is("select(MIN + 1, MAX - 1)", x.select(MIN + 1, MAX - 1), 4);
        Due.is("rowState(5)", x.rowState(5), CrackedColumn.ADDED);
        Due.is("select(MAX - 1, MAX)", x.select(MAX - 1, MAX), 1);
    }

    private static void bothBoundsBecomeCuts() {
        CrackedColumn x = new CrackedColumn(4, 4, 16);
        Due.is("select(5, 9)", x.select(5, 9), 0);
        Due.same("both new", Columns.cuts(x), "cuts 5 9");
        x.select(5, 9);
        Due.same("both known", Columns.cuts(x), "cuts 5 9");
        x.select(-3, 5);
        Due.same("hi known", Columns.cuts(x), "cuts -3 5 9");
        x.select(9, 20);
        Due.same("lo known", Columns.cuts(x), "cuts -3 5 9 20");
        x.select(6, 7);
        Due.same("between", Columns.cuts(x), "cuts -3 5 6 7 9 20");
        x.select(-9, 30);
        Due.same("around", Columns.cuts(x), "cuts -9 -3 5 6 7 9 20 30");
    }

    private static void roomForOneCut() {
        CrackedColumn x = new CrackedColumn(4, 4, 3);
        Columns.insertAll(x, 1, 2, 3);
        x.select(10, 20);
        Due.is("select(1, 3), both new", x.select(1, 3), 2);
        Due.same("lo takes it", Columns.cuts(x), "cuts 1 10 20");
        x.forgetCut(0);
        Due.is("select(10, 15), lo known", x.select(10, 15), 0);
        Due.same("hi takes it", Columns.cuts(x), "cuts 10 15 20");
        x.forgetCut(1);
        Due.is("select(0, 10), hi known", x.select(0, 10), 3);
        Due.same("lo takes it again", Columns.cuts(x), "cuts 0 10 20");
    }

    private static void noRoomForACut() {
        CrackedColumn x = new CrackedColumn(4, 4, 2);
        Columns.insertAll(x, 1, 2, 3);
        x.select(10, 20);
        Due.is("select(1, 3)", x.select(1, 3), 2);
        Due.same("cuts", Columns.cuts(x), "cuts 10 20");
        Due.same("result", Columns.result(x), "result 0 1 sum 3");
        Due.is("rowState(1)", x.rowState(1), CrackedColumn.SETTLED);
        Due.is("rowState(2)", x.rowState(2), CrackedColumn.ADDED);
        CrackedColumn full = new CrackedColumn(4, 4, 16);
        for (int v = 0; v < 32; v += 2) {
            full.select(v, v + 1);
        }
        full.select(-2, -1);
        Due.same("sixteen cuts", Columns.cuts(full), "cuts 0 1 2 3 4 5 6 7 8 9 10 11 12 13 14 15");
    }

    private static void theExtremesMayBeCuts() {
        CrackedColumn x = new CrackedColumn(4, 4, 4);
        x.select(0, 1);
        x.select(MIN, MAX);
        Due.same("cuts", Columns.cuts(x), "cuts -2147483648 0 1 2147483647");
    }

    private static void replacesTheResult() {
        CrackedColumn x = Columns.settled(1, 2, 3, 4, 5);
        Due.same("first", Columns.result(x), "result 0 1 2 3 4 sum 15");
        Due.is("select(2, 4)", x.select(2, 4), 2);
        Due.same("smaller", Columns.result(x), "result 1 2 sum 5");
        Due.is("select(50, 60)", x.select(50, 60), 0);
        Due.same("empty", Columns.result(x), "result sum 0");
        Due.same("cuts of an empty result", Columns.cuts(x), "cuts 2 4 50 60");
    }

    private static void freedIdsLeaveTheResultAlone() {
        // Freed ids must not be seen as rows of the value 0.
        CrackedColumn x = Columns.settled(5, 0);
        x.delete(0);
        x.delete(1);
        Due.is("select(-10, 10)", x.select(-10, 10), 0);
        Due.is("storedCount()", x.storedCount(), 0);
        Due.is("pendingCount()", x.pendingCount(), 0);
        Due.is("select(-10, 10) again", x.select(-10, 10), 0);
    }
}
