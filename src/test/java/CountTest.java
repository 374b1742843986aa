/** Promise 8: count. */
public final class CountTest {
    private static final int MIN = Columns.MIN;
    private static final int MAX = Columns.MAX;

    public static void main(String[] args) {
        refusesAnEmptyRange();
        countsLiveRowsAlone();
        loIsInsideAndHiIsNot();
        freeIdsAreNoRows();
        Due.end();
    }

    private static void counts(CrackedColumn x, int lo, int hi, int want) {
        Columns.changesNothing(x, "count(" + lo + ", " + hi + ")", want, () -> x.count(lo, hi));
    }

    private static void refusesAnEmptyRange() {
        CrackedColumn x = Columns.oneOfEach();
        int[][] ranges = {{10, 10}, {30, 20}, {MAX, MIN}, {MIN, MIN}, {MAX, MAX}, {0, MIN}, {MAX, -1}};
        for (int[] r : ranges) {
            counts(x, r[0], r[1], CrackedColumn.BAD_RANGE);
        }
    }

    private static void countsLiveRowsAlone() {
        CrackedColumn x = Columns.oneOfEach();
        counts(x, 10, 11, 1);
        counts(x, 20, 21, 1);
        counts(x, 30, 31, 0);
        counts(x, MIN, MAX, 2);
        counts(x, 40, 50, 0);
        x.restore(2);
        counts(x, MIN, MAX, 3);
    }

    private static void loIsInsideAndHiIsNot() {
        CrackedColumn x = Columns.added(3, 4, 4, 5, MIN, MAX - 1);
        counts(x, 3, 4, 1);
        counts(x, 4, 5, 2);
        counts(x, 3, 5, 3);
        counts(x, MIN, 3, 1);
        counts(x, MIN + 1, 3, 0);
        counts(x, 6, MAX, 1);
        counts(x, 6, MAX - 1, 0);
    }

    private static void freeIdsAreNoRows() {
        CrackedColumn x = Columns.settled(0, 0, 0);
        x.delete(0);
        x.select(-1, 1);
        counts(x, -1, 1, 2);
    }
}
