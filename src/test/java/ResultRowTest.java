/** Promise 6: resultRow. */
public final class ResultRowTest {
    private static final int MIN = Columns.MIN;
    private static final int MAX = Columns.MAX;

    public static void main(String[] args) {
        idsAscend();
        aNumberBelowZero();
        aNumberTooLarge();
        beforeTheFirstSelect();
        afterARefusedFirstSelect();
        afterASelectThatFoundNone();
        theGreatestResult();
        snapshotAfterInsert();
        snapshotAfterInsertsBelowAndBetween();
        snapshotAfterDelete();
        snapshotAfterRestore();
        snapshotAfterDeleteAndARefusedSelect();
        snapshotAfterForgottenCuts();
        snapshotAfterCount();
        nothingChanges();
        Due.end();
    }

    private static void noneAtEveryNumber(CrackedColumn x) {
        for (int k = -3; k <= 35; k++) {
            Due.is("resultRow(" + k + ")", x.resultRow(k), CrackedColumn.NONE);
        }
        Due.is("resultRow(MIN)", x.resultRow(MIN), CrackedColumn.NONE);
        Due.is("resultRow(MAX)", x.resultRow(MAX), CrackedColumn.NONE);
    }

    private static void idsAscend() {
        Due.says("6: the id number k (from 0) of the result, in ascending order of ids");
        CrackedColumn x = Columns.added(9, 1, 7, 50, 3, 5);
        // Rows that were settled earlier do not come first.
        x.select(3, 6);
        x.select(1, 10);
        int[] ids = {0, 1, 2, 4, 5};
        for (int k = 0; k < ids.length; k++) {
            Due.is("resultRow(" + k + ")", x.resultRow(k), ids[k]);
        }
    }

    private static void aNumberBelowZero() {
        Due.says("6: if k < 0 it answers NONE");
        CrackedColumn x = Columns.settled(1, 2, 3);
        for (int k : Columns.TOO_SMALL) {
            Due.is("resultRow(" + k + ")", x.resultRow(k), CrackedColumn.NONE);
        }
    }

    private static void aNumberTooLarge() {
        Due.says("6: if k >= the number of ids in the result it answers NONE");
        CrackedColumn x = Columns.settled(1, 2, 3);
        Due.is("resultRow(2)", x.resultRow(2), 2);
        for (int k = 3; k < 35; k++) {
            Due.is("resultRow(" + k + ")", x.resultRow(k), CrackedColumn.NONE);
        }
        for (int k : Columns.TOO_LARGE) {
            Due.is("resultRow(" + k + ")", x.resultRow(k), CrackedColumn.NONE);
        }
        // What a longer result has left behind is not part of a shorter one.
        x.select(2, 3);
        Due.is("resultRow(0) of one id", x.resultRow(0), 1);
        Due.is("resultRow(1) of one id", x.resultRow(1), CrackedColumn.NONE);
    }

    private static void beforeTheFirstSelect() {
        Due.says("6: before the first accepted select it answers NONE for every k");
        noneAtEveryNumber(new CrackedColumn(32, 16, 16));
        CrackedColumn x = Columns.added(1, 2, 3);
        x.count(1, 4);
        noneAtEveryNumber(x);
    }

    private static void afterARefusedFirstSelect() {
        Due.says("6: before the first accepted select it answers NONE for every k (a refused one came)");
        CrackedColumn x = Columns.added(1, 2, 3);
        x.select(4, 1);
        noneAtEveryNumber(x);
    }

    private static void afterASelectThatFoundNone() {
        Due.says("6: after a select that found no row it answers NONE for every k");
        CrackedColumn x = Columns.settled(1, 2, 3);
        x.select(8, 9);
        noneAtEveryNumber(x);
    }

    private static void theGreatestResult() {
        Due.says("6: the id number k (the greatest number of ids)");
        CrackedColumn x = Columns.thirtyTwo(5);
        for (int k = 0; k < 32; k++) {
            Due.is("resultRow(" + k + ")", x.resultRow(k), k);
        }
        Due.is("resultRow(32)", x.resultRow(32), CrackedColumn.NONE);
    }

    private static CrackedColumn zeroToTwo() {
        CrackedColumn x = Columns.settled(1, 2, 3);
        x.select(1, 4);
        return x;
    }

    private static void isStillZeroToTwo(CrackedColumn x) {
        for (int k = 0; k < 3; k++) {
            Due.is("resultRow(" + k + ")", x.resultRow(k), k);
        }
        Due.is("resultRow(3)", x.resultRow(3), CrackedColumn.NONE);
        Due.is("resultRow(-1)", x.resultRow(-1), CrackedColumn.NONE);
    }

    private static void snapshotAfterInsert() {
        Due.says("6: the ids are those of the snapshot (a row inside the range was inserted)");
        CrackedColumn x = zeroToTwo();
        x.insert(2);
        isStillZeroToTwo(x);
    }

    private static void snapshotAfterInsertsBelowAndBetween() {
        Due.says("6: the ids are those of the snapshot (ids below, between and above them were given out)");
        CrackedColumn x = Columns.removed(1, 2, 3, 4);
        x.restore(1);
        x.restore(3);
        x.select(1, 5);
        for (int id : new int[] {0, 2, 4}) {
            Due.is("insert(2)", x.insert(2), id);
            Due.same("result", Columns.result(x), "result 1 3 sum 6");
        }
        x.delete(1);
        x.delete(0);
        Due.is("insert(3)", x.insert(3), 0);
        Due.same("result", Columns.result(x), "result 1 3 sum 6");
    }

    private static void snapshotAfterDelete() {
        Due.says("6: the ids are those of the snapshot, whatever has happened to their rows since (deleted)");
        CrackedColumn x = zeroToTwo();
        x.delete(0);
        isStillZeroToTwo(x);
        x.delete(1);
        x.delete(2);
        isStillZeroToTwo(x);
    }

    private static void snapshotAfterRestore() {
        Due.says("6: the ids are those of the snapshot, whatever has happened to their rows since (restored)");
        CrackedColumn x = zeroToTwo();
        x.delete(1);
        x.restore(1);
        isStillZeroToTwo(x);
        CrackedColumn y = Columns.settled(1, 2, 9, 3);
        y.delete(2);
        y.select(1, 4);
        y.restore(2);
        Due.same("a row outside restored", Columns.result(y), "result 0 1 3 sum 6");
    }

    private static void snapshotAfterDeleteAndARefusedSelect() {
        Due.says("6: the ids are those of the snapshot (rows deleted, and a refused select came between)");
        CrackedColumn x = zeroToTwo();
        x.delete(0);
        x.select(4, 1);
        x.delete(1);
        x.select(2, 2);
        isStillZeroToTwo(x);
        Due.same("rows", Columns.rows(x), "R1 R2 S3");
    }

    private static void snapshotAfterForgottenCuts() {
        Due.says("6: the ids are those of the snapshot (cuts were forgotten)");
        CrackedColumn x = zeroToTwo();
        Columns.forgetAllCuts(x);
        isStillZeroToTwo(x);
    }

    private static void snapshotAfterCount() {
        Due.says("6: the ids are those of the snapshot (count was asked)");
        CrackedColumn x = zeroToTwo();
        x.count(2, 3);
        isStillZeroToTwo(x);
    }

    private static void nothingChanges() {
        Due.says("6: nothing changes");
        CrackedColumn x = Columns.oneOfEach();
        Columns.changesNothing(x, "resultRow(0)", 0, () -> x.resultRow(0));
        Columns.changesNothing(x, "resultRow(1)", 2, () -> x.resultRow(1));
        Columns.changesNothing(x, "resultRow(2)", CrackedColumn.NONE, () -> x.resultRow(2));
        Columns.changesNothing(x, "resultRow(-1)", CrackedColumn.NONE, () -> x.resultRow(-1));
    }
}
