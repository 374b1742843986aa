import java.util.ArrayDeque;
import java.util.ArrayList;
import java.util.HashSet;
import java.util.List;
import java.util.Queue;
import java.util.Set;

/** All promises: every state that a small column comes to by a few values and bounds, compared with a model. */
public final class EveryStateTest {
    private static final int ROWS = 4;
    private static final int PENDING = 2;
    private static final int CUTS = 2;
    private static final List<Pair.Call> CALLS = calls();

    public static void main(String[] args) {
        Due.says("every state of a column of the limits 4, 2, 2 with the values 0 and 1 and the bounds 0 to 2");
        Set<String> known = new HashSet<>();
        Queue<List<Pair.Call>> toTry = new ArrayDeque<>();
        toTry.add(List.of());
        known.add(state(after(List.of())));
        while (!toTry.isEmpty() && Due.wrongSoFar() == 0) {
            List<Pair.Call> run = toTry.remove();
            for (Pair.Call call : CALLS) {
                Pair pair = after(run);
                pair.make(call);
                pair.compareUpTo(ROWS);
                resultIsStored(pair.column);
                if (known.add(state(pair))) {
                    toTry.add(with(run, call));
                }
            }
        }
        System.out.println(known.size() + " states");
        Due.end();
    }

    private static List<Pair.Call> calls() {
        List<Pair.Call> calls = new ArrayList<>();
        for (int value : new int[] {0, 1, Columns.MAX}) {
            calls.add(new Pair.Call(Pair.Method.INSERT, value, 0));
        }
        for (int id = -1; id <= ROWS; id++) {
            calls.add(new Pair.Call(Pair.Method.DELETE, id, 0));
            calls.add(new Pair.Call(Pair.Method.RESTORE, id, 0));
        }
        for (int k = -1; k <= CUTS; k++) {
            calls.add(new Pair.Call(Pair.Method.FORGET_CUT, k, 0));
        }
        for (int bounds = 0; bounds < 9; bounds++) {
            calls.add(new Pair.Call(Pair.Method.SELECT, bounds / 3, bounds % 3));
            calls.add(new Pair.Call(Pair.Method.COUNT, bounds / 3, bounds % 3));
        }
        return calls;
    }

    private static Pair after(List<Pair.Call> run) {
        Pair pair = new Pair("a run", ROWS, PENDING, CUTS);
        for (Pair.Call call : run) {
            pair.make(call);
        }
        return pair;
    }

    private static List<Pair.Call> with(List<Pair.Call> run, Pair.Call call) {
        List<Pair.Call> longer = new ArrayList<>(run);
        longer.add(call);
        return longer;
    }

    private static String state(Pair pair) {
        return Columns.rows(pair.column) + Columns.cuts(pair.column) + Columns.result(pair.column);
    }

    /** Why no call gives out an id of the result: its rows stay stored until a select is accepted. */
    private static void resultIsStored(CrackedColumn x) {
        for (int k = 0; k < ROWS && x.resultRow(k) != CrackedColumn.NONE; k++) {
            int state = x.rowState(x.resultRow(k));
            Due.is("the row is stored", state == CrackedColumn.SETTLED || state == CrackedColumn.REMOVED ? 1 : 0, 1);
        }
    }
}
