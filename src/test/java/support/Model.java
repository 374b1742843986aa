import java.util.ArrayList;
import java.util.List;
import java.util.NavigableMap;
import java.util.TreeMap;
import java.util.TreeSet;

/** The document's words over the collections of the Java library: slow, and unlike the program inside. */
final class Model {
    private record Row(int state, int value) {
        boolean inside(int lo, int hi) {
            return lo <= value && value < hi;
        }

        boolean live() {
            return state == CrackedColumn.ADDED || state == CrackedColumn.SETTLED;
        }
    }

    private final int rowLimit;
    private final int pendingLimit;
    private final int cutLimit;
    private final NavigableMap<Integer, Row> rows = new TreeMap<>();
    private final TreeSet<Integer> cuts = new TreeSet<>();
    private List<Integer> result = new ArrayList<>();
    private long sum = 0;

    Model(int rowLimit, int pendingLimit, int cutLimit) {
        this.rowLimit = Math.max(4, Math.min(32, rowLimit));
        this.pendingLimit = Math.max(1, Math.min(16, pendingLimit));
        this.cutLimit = Math.max(1, Math.min(16, cutLimit));
    }

    int insert(int value) {
        if (value == Integer.MAX_VALUE) {
            return CrackedColumn.BAD_VALUE;
        }
        if (rows.size() == rowLimit) {
            return CrackedColumn.FULL;
        }
        if (pendingCount() == pendingLimit) {
            return CrackedColumn.PENDING_FULL;
        }
        int id = 0;
        while (rows.containsKey(id)) {
            id++;
        }
        rows.put(id, new Row(CrackedColumn.ADDED, value));
        return id;
    }

    int delete(int id) {
        switch (rowState(id)) {
            case CrackedColumn.ADDED:
                rows.remove(id);
                return CrackedColumn.OK;
            case CrackedColumn.SETTLED:
                if (pendingCount() == pendingLimit) {
                    return CrackedColumn.PENDING_FULL;
                }
                rows.put(id, new Row(CrackedColumn.REMOVED, rowValue(id)));
                return CrackedColumn.OK;
            default:
                return CrackedColumn.NO_ROW;
        }
    }

    int restore(int id) {
        if (rowState(id) != CrackedColumn.REMOVED) {
            return CrackedColumn.NO_ROW;
        }
        rows.put(id, new Row(CrackedColumn.SETTLED, rowValue(id)));
        return CrackedColumn.OK;
    }

    int select(int lo, int hi) {
        if (lo >= hi) {
            return CrackedColumn.BAD_RANGE;
        }
        rows.values().removeIf(row -> row.state == CrackedColumn.REMOVED && row.inside(lo, hi));
        rows.replaceAll((id, row) -> row.inside(lo, hi) ? new Row(CrackedColumn.SETTLED, row.value) : row);
        for (int bound : new int[] {lo, hi}) {
            if (cuts.size() < cutLimit) {
                cuts.add(bound);
            }
        }
        result = new ArrayList<>();
        sum = 0;
        rows.forEach((id, row) -> {
            if (row.live() && row.inside(lo, hi)) {
                result.add(id);
                sum += row.value;
            }
        });
        return result.size();
    }

    int resultRow(int k) {
        return k < 0 || k >= result.size() ? CrackedColumn.NONE : result.get(k);
    }

    long resultSum() {
        return sum;
    }

    int count(int lo, int hi) {
        if (lo >= hi) {
            return CrackedColumn.BAD_RANGE;
        }
        return (int) rows.values().stream().filter(row -> row.live() && row.inside(lo, hi)).count();
    }

    int forgetCut(int k) {
        if (k < 0 || k >= cuts.size()) {
            return CrackedColumn.NO_CUT;
        }
        cuts.remove(cutValue(k));
        return CrackedColumn.OK;
    }

    int cutCount() {
        return cuts.size();
    }

    int cutValue(int k) {
        return k < 0 || k >= cuts.size() ? 0 : new ArrayList<>(cuts).get(k);
    }

    int cutBelow(int k) {
        if (k < 0 || k >= cuts.size()) {
            return CrackedColumn.NONE;
        }
        int cut = cutValue(k);
        return (int) rows.values().stream().filter(row -> row.state != CrackedColumn.ADDED && row.value < cut).count();
    }

    int pieceOf(int id) {
        Row row = rows.get(id);
        boolean stored = row != null && row.state != CrackedColumn.ADDED;
        return stored ? cuts.headSet(row.value, true).size() : CrackedColumn.NONE;
    }

    int rowState(int id) {
        if (id < 0 || id >= rowLimit) {
            return CrackedColumn.NONE;
        }
        return rows.containsKey(id) ? rows.get(id).state : CrackedColumn.FREE;
    }

    int rowValue(int id) {
        return rows.containsKey(id) ? rows.get(id).value : 0;
    }

    int storedCount() {
        return (int) rows.values().stream().filter(row -> row.state != CrackedColumn.ADDED).count();
    }

    int pendingCount() {
        return (int) rows.values().stream().filter(row -> row.state != CrackedColumn.SETTLED).count();
    }
}
