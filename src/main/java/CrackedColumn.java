public final class CrackedColumn {
    public static final int FREE = 0;
    public static final int ADDED = 1;
    public static final int SETTLED = 2;
    public static final int REMOVED = 3;

    public static final int OK = 0;
    public static final int NONE = -1;
    public static final int BAD_VALUE = -2;
    public static final int FULL = -3;
    public static final int PENDING_FULL = -4;
    public static final int NO_ROW = -5;
    public static final int BAD_RANGE = -6;
    public static final int NO_CUT = -7;

    private static final int LEAST_ROWS = 4;
    private static final int MOST_ROWS = 32;
    private static final int LEAST_PENDING = 1;
    private static final int MOST_PENDING = 16;
    private static final int LEAST_CUTS = 1;
    private static final int MOST_CUTS = 16;

    // No range reaches this value, because hi is never inside: a row with it could not be found.
    private static final int UNREACHABLE_VALUE = 2147483647;

    private final int rowLimit;
    private final int pendingLimit;
    private final int cutLimit;

    // A FREE id keeps the value 0 here, so that rowValue need not look at the state.
    private final int[] states = new int[MOST_ROWS];
    private final int[] values = new int[MOST_ROWS];

    // The first cutTotal entries are the cuts, ascending and all different.
    private final int[] cuts = new int[MOST_CUTS];
    private int cutTotal = 0;

    // The result is a copy: its rows may change or go while it stays.
    private final int[] resultIds = new int[MOST_ROWS];
    private int resultSize = 0;
    private long resultTotal = 0L;

    public CrackedColumn(int rowLimit, int pendingLimit, int cutLimit) {
        this.rowLimit = clamp(rowLimit, LEAST_ROWS, MOST_ROWS);
        this.pendingLimit = clamp(pendingLimit, LEAST_PENDING, MOST_PENDING);
        this.cutLimit = clamp(cutLimit, LEAST_CUTS, MOST_CUTS);
    }

    public int insert(int value) {
        if (value == UNREACHABLE_VALUE) {
            return BAD_VALUE;
        }
        int id = smallestFreeId();
        if (id == NONE) {
            return FULL;
        }
        if (pendingCount() >= pendingLimit) {
            return PENDING_FULL;
        }
        states[id] = ADDED;
        values[id] = value;
        return id;
    }

    public int delete(int id) {
        int state = rowState(id);
        if (!isLive(state)) {
            return NO_ROW;
        }
        if (state == ADDED) {
            freeRow(id);
            return OK;
        }
        if (pendingCount() >= pendingLimit) {
            return PENDING_FULL;
        }
        states[id] = REMOVED;
        return OK;
    }

    public int restore(int id) {
        if (rowState(id) != REMOVED) {
            return NO_ROW;
        }
        states[id] = SETTLED;
        return OK;
    }

    public int select(int lo, int hi) {
        if (lo >= hi) {
            return BAD_RANGE;
        }
        applyPending(lo, hi);
        // lo goes first: it has the better claim when there is room for one cut only.
        addCut(lo);
        addCut(hi);
        takeResult(lo, hi);
        return resultSize;
    }

    public int resultRow(int k) {
        if (k < 0 || k >= resultSize) {
            return NONE;
        }
        return resultIds[k];
    }

    public long resultSum() {
        return resultTotal;
    }

    public int count(int lo, int hi) {
        if (lo >= hi) {
            return BAD_RANGE;
        }
        int found = 0;
        for (int id = 0; id < rowLimit; id++) {
            if (isLive(states[id]) && isInside(values[id], lo, hi)) {
                found++;
            }
        }
        return found;
    }

    public int forgetCut(int k) {
        if (!isCut(k)) {
            return NO_CUT;
        }
        for (int i = k + 1; i < cutTotal; i++) {
            cuts[i - 1] = cuts[i];
        }
        cutTotal--;
        return OK;
    }

    public int cutCount() {
        return cutTotal;
    }

    public int cutValue(int k) {
        if (!isCut(k)) {
            return 0;
        }
        return cuts[k];
    }

    public int cutBelow(int k) {
        if (!isCut(k)) {
            return NONE;
        }
        int below = 0;
        for (int id = 0; id < rowLimit; id++) {
            if (isStored(states[id]) && values[id] < cuts[k]) {
                below++;
            }
        }
        return below;
    }

    public int pieceOf(int id) {
        int state = rowState(id);
        if (!isStored(state)) {
            return NONE;
        }
        return cutsUpTo(values[id]);
    }

    public int rowState(int id) {
        if (!isId(id)) {
            return NONE;
        }
        return states[id];
    }

    public int rowValue(int id) {
        if (!isId(id)) {
            return 0;
        }
        return values[id];
    }

    public int storedCount() {
        int stored = 0;
        for (int id = 0; id < rowLimit; id++) {
            if (isStored(states[id])) {
                stored++;
            }
        }
        return stored;
    }

    public int pendingCount() {
        int pending = 0;
        for (int id = 0; id < rowLimit; id++) {
            if (isPending(states[id])) {
                pending++;
            }
        }
        return pending;
    }

    private static int clamp(int wanted, int least, int most) {
        if (wanted < least) {
            return least;
        }
        if (wanted > most) {
            return most;
        }
        return wanted;
    }

    private static boolean isLive(int state) {
        return state == ADDED || state == SETTLED;
    }

    private static boolean isStored(int state) {
        return state == SETTLED || state == REMOVED;
    }

    private static boolean isPending(int state) {
        return state == ADDED || state == REMOVED;
    }

    private static boolean isInside(int value, int lo, int hi) {
        return lo <= value && value < hi;
    }

    private boolean isId(int id) {
        return id >= 0 && id < rowLimit;
    }

    private boolean isCut(int k) {
        return k >= 0 && k < cutTotal;
    }

    private int smallestFreeId() {
        for (int id = 0; id < rowLimit; id++) {
            if (states[id] == FREE) {
                return id;
            }
        }
        return NONE;
    }

    private void freeRow(int id) {
        states[id] = FREE;
        values[id] = 0;
    }

    private void applyPending(int lo, int hi) {
        for (int id = 0; id < rowLimit; id++) {
            if (isInside(values[id], lo, hi)) {
                if (states[id] == ADDED) {
                    states[id] = SETTLED;
                } else if (states[id] == REMOVED) {
                    freeRow(id);
                }
            }
        }
    }

    private int cutsUpTo(int value) {
        int upTo = 0;
        for (int k = 0; k < cutTotal; k++) {
            if (cuts[k] <= value) {
                upTo++;
            }
        }
        return upTo;
    }

    private void addCut(int value) {
        int place = cutsUpTo(value);
        // The cuts ascend, so an equal one can only be the last of those up to the value.
        if (place > 0 && cuts[place - 1] == value) {
            return;
        }
        if (cutTotal >= cutLimit) {
            return;
        }
        for (int k = cutTotal; k > place; k--) {
            cuts[k] = cuts[k - 1];
        }
        cuts[place] = value;
        cutTotal++;
    }

    private void takeResult(int lo, int hi) {
        resultSize = 0;
        resultTotal = 0L;
        for (int id = 0; id < rowLimit; id++) {
            if (isLive(states[id]) && isInside(values[id], lo, hi)) {
                resultIds[resultSize] = id;
                resultSize++;
                resultTotal += values[id];
            }
        }
    }
}
