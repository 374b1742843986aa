/** Promise 7: resultSum. */
public final class ResultSumTest {
    private static final int MIN = Columns.MIN;
    private static final int MAX = Columns.MAX;

    public static void main(String[] args) {
        sumOfTheLatestSelect();
        zeroBeforeTheFirst();
        zeroAfterASelectThatFoundNone();
        sumsAnIntCannotHoldUpwards();
        sumsAnIntCannotHoldDownwards();
        sumsThatComeBack();
        snapshotAfterInsert();
        snapshotAfterDelete();
        snapshotAfterRestore();
        snapshotAfterForgottenCuts();
        snapshotAfterARefusedSelect();
        nothingChanges();
        Due.end();
    }

    private static void sumAfter(CrackedColumn x, int lo, int hi, long want) {
        x.select(lo, hi);
        Due.is("resultSum() after select(" + lo + ", " + hi + ")", x.resultSum(), want);
    }

    private static void sumOfTheLatestSelect() {
        Due.says("7: the sum left by the latest accepted select");
        CrackedColumn x = Columns.settled(4, -7, 4, 20, 0);
        sumAfter(x, -10, 30, 21);
        sumAfter(x, 4, 5, 8);
        sumAfter(x, -10, 0, -7);
        sumAfter(x, 0, 1, 0);
    }

    private static void zeroBeforeTheFirst() {
        Due.says("7: 0 before the first");
        Due.is("resultSum()", new CrackedColumn(4, 4, 4).resultSum(), 0);
        CrackedColumn x = Columns.added(5, 6);
        Due.is("resultSum() with rows", x.resultSum(), 0);
        x.select(7, 5);
        Due.is("resultSum() after a refused select", x.resultSum(), 0);
    }

    private static void zeroAfterASelectThatFoundNone() {
        Due.says("7: the sum left by the latest accepted select (it found no row)");
        CrackedColumn x = Columns.settled(4, 5);
        sumAfter(x, 8, 9, 0);
    }

    private static void sumsAnIntCannotHoldUpwards() {
        Due.says("7: added up in long, so it does not wrap around as an int sum could (upwards)");
        sumAfter(Columns.settled(MAX - 1, 1), MIN, MAX, 2147483647L);
        sumAfter(Columns.settled(MAX - 1, 2), MIN, MAX, 2147483648L);
        sumAfter(Columns.settled(MAX - 1, MAX - 1), MIN, MAX, 4294967292L);
        sumAfter(Columns.thirtyTwo(MAX - 1), MAX - 1, MAX, 68719476672L);
    }

    private static void sumsAnIntCannotHoldDownwards() {
        Due.says("7: added up in long, so it does not wrap around as an int sum could (downwards)");
        sumAfter(Columns.settled(MIN), MIN, MAX, -2147483648L);
        sumAfter(Columns.settled(MIN, -1), MIN, MAX, -2147483649L);
        sumAfter(Columns.settled(MIN, MIN), MIN, MAX, -4294967296L);
        sumAfter(Columns.thirtyTwo(MIN), MIN, MIN + 1, -68719476736L);
    }

    private static void sumsThatComeBack() {
        Due.says("7: added up in long (great values of both signs)");
        sumAfter(Columns.settled(MAX - 1, MAX - 1, MIN, MIN, 7), MIN, MAX, 3);
        sumAfter(Columns.settled(MIN, MAX - 1), MIN, MAX, -2);
    }

    private static CrackedColumn six() {
        CrackedColumn x = Columns.settled(1, 2, 3);
        x.select(1, 4);
        return x;
    }

    private static void isStillSix(CrackedColumn x) {
        Due.is("resultSum()", x.resultSum(), 6);
    }

    private static void snapshotAfterInsert() {
        Due.says("7: inserts leave it as it is");
        CrackedColumn x = six();
        x.insert(2);
        isStillSix(x);
    }

    private static void snapshotAfterDelete() {
        Due.says("7: deletes leave it as it is");
        CrackedColumn x = six();
        x.insert(2);
        x.delete(3);
        isStillSix(x);
        x.delete(0);
        x.delete(1);
        x.delete(2);
        isStillSix(x);
    }

    private static void snapshotAfterRestore() {
        Due.says("7: restores leave it as it is");
        CrackedColumn x = six();
        x.delete(1);
        x.restore(1);
        isStillSix(x);
        CrackedColumn y = Columns.removed(1, 2, 3, 9);
        y.restore(0);
        y.restore(1);
        y.restore(2);
        y.select(1, 4);
        y.restore(3);
        isStillSix(y);
    }

    private static void snapshotAfterForgottenCuts() {
        Due.says("7: forgotten cuts leave it as it is");
        CrackedColumn x = six();
        x.forgetCut(0);
        x.forgetCut(0);
        isStillSix(x);
    }

    private static void snapshotAfterARefusedSelect() {
        Due.says("7: refused selects leave it as it is");
        CrackedColumn x = six();
        x.select(4, 1);
        isStillSix(x);
        x.delete(0);
        x.select(1, 1);
        isStillSix(x);
    }

    private static void nothingChanges() {
        Due.says("7: nothing changes");
        CrackedColumn x = Columns.oneOfEach();
        Columns.changesNothing(x, "resultSum()", 40, () -> (int) x.resultSum());
    }
}
