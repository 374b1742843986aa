import java.util.function.IntSupplier;

/** Terms and common rules: the result is a snapshot, and no call but an accepted select changes it. */
public final class SnapshotTest {
    private static final int MIN = Columns.MIN;
    private static final int MAX = Columns.MAX;
    private static final int[] RESULT = {1, 2, 4};
    private static final String SNAPSHOT = "result 1 2 4 sum 12";
    private static final int LONGEST_RUN = 5;
    private static final int KINDS = 10;

    public static void main(String[] args) {
        rowsOfTheResultAreDeleted();
        aDeleteIsRefused();
        rowsOfTheResultAreRestored();
        deletedRowsArePassedByARefusedSelect();
        otherIdsAreGivenOut();
        cutsAreForgottenAndRowsCounted();
        allOfItMeanwhile();
        everyShortRunLeavesIt();
        anAcceptedSelectReplacesIt();
        idsOfAnEarlierResultAreGivenOut();
        Due.end();
    }

    /** The limits are 8, 4, 4; the rows are - S3 S4 - S5, the cuts 3 and 6, the result is SNAPSHOT. */
    private static CrackedColumn taken() {
        CrackedColumn x = new CrackedColumn(8, 4, 4);
        Columns.insertAll(x, 1, 3, 4, 9);
        x.select(3, 6);
        x.insert(5);
        x.delete(0);
        x.delete(3);
        x.select(3, 6);
        Due.same("rows", Columns.rows(x), "- S3 S4 - S5");
        Due.same("the result at first", Columns.result(x), SNAPSHOT);
        return x;
    }

    private static void stays(CrackedColumn x, String call, int want, IntSupplier made) {
        Due.is(call, made.getAsInt(), want);
        Due.same("after " + call, Columns.result(x), SNAPSHOT);
    }

    private static void deleted(CrackedColumn x, int id) {
        stays(x, "delete(" + id + ")", CrackedColumn.OK, () -> x.delete(id));
    }

    private static void restored(CrackedColumn x, int id) {
        stays(x, "restore(" + id + ")", CrackedColumn.OK, () -> x.restore(id));
    }

    private static void givenOut(CrackedColumn x, int value, int id) {
        stays(x, "insert(" + value + ")", id, () -> x.insert(value));
    }

    private static void selectsRefused(CrackedColumn x) {
        for (int[] r : new int[][] {{6, 3}, {3, 3}, {4, 3}, {MAX, MIN}}) {
            stays(x, "select(" + r[0] + ", " + r[1] + ")", CrackedColumn.BAD_RANGE, () -> x.select(r[0], r[1]));
        }
    }

    private static void rowsOfTheResultAreDeleted() {
        Due.says("Terms: it is a snapshot, even if its rows are deleted");
        CrackedColumn x = taken();
        for (int id : RESULT) {
            deleted(x, id);
        }
        Due.same("rows", Columns.rows(x), "- R3 R4 - R5");
        for (int id : RESULT) {
            stays(x, "delete(" + id + ") again", CrackedColumn.NO_ROW, () -> x.delete(id));
        }
    }

    private static void aDeleteIsRefused() {
        Due.says("Terms: no call but an accepted select changes it (a delete of its row is refused)");
        CrackedColumn x = taken();
        Columns.insertAll(x, 10, 11, 12, 13);
        for (int id : RESULT) {
            stays(x, "delete(" + id + ")", CrackedColumn.PENDING_FULL, () -> x.delete(id));
        }
    }

    private static void rowsOfTheResultAreRestored() {
        Due.says("Terms: no call but an accepted select changes it (its rows are deleted and restored)");
        CrackedColumn x = taken();
        for (int id : RESULT) {
            deleted(x, id);
        }
        for (int id : RESULT) {
            restored(x, id);
        }
        Due.same("rows", Columns.rows(x), "- S3 S4 - S5");
        stays(x, "restore(1) again", CrackedColumn.NO_ROW, () -> x.restore(1));
    }

    private static void deletedRowsArePassedByARefusedSelect() {
        Due.says("Terms: no call but an accepted select changes it (its rows are deleted, a select is refused)");
        CrackedColumn x = taken();
        for (int id : RESULT) {
            deleted(x, id);
            selectsRefused(x);
        }
        Due.same("rows", Columns.rows(x), "- R3 R4 - R5");
        restored(x, 2);
        selectsRefused(x);
    }

    private static void otherIdsAreGivenOut() {
        Due.says("Terms: no call but an accepted select changes it (other ids are given out)");
        CrackedColumn x = taken();
        givenOut(x, 4, 0);
        givenOut(x, 5, 3);
        givenOut(x, 9, 5);
        deleted(x, 3);
        deleted(x, 0);
        givenOut(x, 3, 0);
        givenOut(x, 3, 3);
        givenOut(x, MIN, 6);
        stays(x, "insert(4)", CrackedColumn.PENDING_FULL, () -> x.insert(4));
    }

    private static void cutsAreForgottenAndRowsCounted() {
        Due.says("Terms: no call but an accepted select changes it (cuts are forgotten, rows counted)");
        CrackedColumn x = taken();
        stays(x, "count(3, 5)", 2, () -> x.count(3, 5));
        stays(x, "count(5, 3)", CrackedColumn.BAD_RANGE, () -> x.count(5, 3));
        stays(x, "forgetCut(1)", CrackedColumn.OK, () -> x.forgetCut(1));
        stays(x, "forgetCut(0)", CrackedColumn.OK, () -> x.forgetCut(0));
        stays(x, "forgetCut(0)", CrackedColumn.NO_CUT, () -> x.forgetCut(0));
        Columns.readEverything(x);
        Due.same("after every read", Columns.result(x), SNAPSHOT);
    }

    private static void allOfItMeanwhile() {
        Due.says("Terms: no call but an accepted select changes it (all of this in one run)");
        CrackedColumn x = taken();
        deleted(x, 1);
        givenOut(x, 3, 0);
        selectsRefused(x);
        deleted(x, 4);
        givenOut(x, 5, 3);
        selectsRefused(x);
        restored(x, 1);
        deleted(x, 0);
        givenOut(x, 4, 0);
        stays(x, "forgetCut(0)", CrackedColumn.OK, () -> x.forgetCut(0));
        deleted(x, 2);
        selectsRefused(x);
        Due.same("rows", Columns.rows(x), "A4 S3 R4 A5 R5");
    }

    private static void everyShortRunLeavesIt() {
        Due.says("Terms: no call but an accepted select changes it (every run of five such calls)");
        int runs = 1;
        for (int i = 0; i < LONGEST_RUN; i++) {
            runs *= KINDS;
        }
        for (int run = 0; run < runs && Due.wrongSoFar() == 0; run++) {
            shortRun(run);
        }
    }

    /** The decimal digits of the run's number are its calls. */
    private static void shortRun(int run) {
        CrackedColumn x = taken();
        int rest = run;
        for (int i = 0; i < LONGEST_RUN; i++) {
            callThatIsNoAcceptedSelect(x, rest % KINDS);
            rest /= KINDS;
            Due.same("run " + run + " after call " + i, Columns.result(x), SNAPSHOT);
        }
        // Why no run gives out an id of the result: its rows stay stored until a select is accepted.
        for (int id : RESULT) {
            Due.is("run " + run + ": id " + id + " is stored", x.pieceOf(id) == CrackedColumn.NONE ? 0 : 1, 1);
        }
    }

    private static int callThatIsNoAcceptedSelect(CrackedColumn x, int kind) {
        switch (kind) {
            case 0:
                return x.delete(1);
            case 1:
                return x.delete(4);
            case 2:
                return x.restore(1);
            case 3:
                return x.restore(4);
            case 4:
                return x.insert(4);
            case 5:
                return x.insert(9);
            case 6:
                return x.delete(0);
            case 7:
                return x.select(6, 3);
            case 8:
                return x.count(3, 6);
            default:
                return x.forgetCut(0);
        }
    }

    private static void anAcceptedSelectReplacesIt() {
        Due.says("Terms: left by the latest accepted select (rows of the one before are deleted meanwhile)");
        CrackedColumn x = taken();
        x.delete(1);
        x.insert(5);
        Due.is("select(3, 6)", x.select(3, 6), 3);
        Due.same("result", Columns.result(x), "result 0 2 4 sum 14");
        x.delete(2);
        Due.is("select(100, 101)", x.select(100, 101), 0);
        Due.same("result", Columns.result(x), "result sum 0");
    }

    private static void idsOfAnEarlierResultAreGivenOut() {
        Due.says("Terms: a snapshot, even if ids are given to other rows later (ids of the result before)");
        CrackedColumn x = taken();
        x.delete(1);
        x.delete(2);
        Due.is("select(3, 6)", x.select(3, 6), 1);
        for (int id = 0; id < 4; id++) {
            Due.is("insert(5)", x.insert(5), id);
            Due.same("result", Columns.result(x), "result 4 sum 5");
        }
    }
}
