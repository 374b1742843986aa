/** A column and a model that are asked the same: each answer is compared, and all that can be seen after it. */
final class Pair {
    enum Method { INSERT, DELETE, RESTORE, SELECT, FORGET_CUT, COUNT }

    /** A call that may change something, or count; b is of use only where the method takes a range. */
    record Call(Method method, int a, int b) {
    }

    final CrackedColumn column;
    private final Model model;
    private String made;

    Pair(String name, int rowLimit, int pendingLimit, int cutLimit) {
        column = new CrackedColumn(rowLimit, pendingLimit, cutLimit);
        model = new Model(rowLimit, pendingLimit, cutLimit);
        made = name + ": new CrackedColumn(" + rowLimit + ", " + pendingLimit + ", " + cutLimit + ")";
    }

    void make(Call call) {
        int a = call.a();
        int b = call.b();
        switch (call.method()) {
            case INSERT -> due("insert(" + a + ")", column.insert(a), model.insert(a));
            case DELETE -> due("delete(" + a + ")", column.delete(a), model.delete(a));
            case RESTORE -> due("restore(" + a + ")", column.restore(a), model.restore(a));
            case SELECT -> due("select(" + a + ", " + b + ")", column.select(a, b), model.select(a, b));
            case FORGET_CUT -> due("forgetCut(" + a + ")", column.forgetCut(a), model.forgetCut(a));
            case COUNT -> due("count(" + a + ", " + b + ")", column.count(a, b), model.count(a, b));
        }
    }

    private void due(String call, long got, long want) {
        made = made + "\n  " + call;
        Due.is(made, got, want);
    }

    /** Looks at every id and number from -1 up to the last one that is given, and at the extremes. */
    void compareUpTo(int last) {
        for (int i = -1; i <= last; i++) {
            compareAt(i);
        }
        compareAt(Integer.MIN_VALUE);
        compareAt(Integer.MAX_VALUE);
        seen("resultSum()", column.resultSum(), model.resultSum());
        seen("cutCount()", column.cutCount(), model.cutCount());
        seen("storedCount()", column.storedCount(), model.storedCount());
        seen("pendingCount()", column.pendingCount(), model.pendingCount());
    }

    private void compareAt(int i) {
        seen("rowState", i, column.rowState(i), model.rowState(i));
        seen("rowValue", i, column.rowValue(i), model.rowValue(i));
        seen("pieceOf", i, column.pieceOf(i), model.pieceOf(i));
        seen("resultRow", i, column.resultRow(i), model.resultRow(i));
        seen("cutValue", i, column.cutValue(i), model.cutValue(i));
        seen("cutBelow", i, column.cutBelow(i), model.cutBelow(i));
    }

    private void seen(String method, int i, int got, int want) {
        // The text is made only where it is needed, because nearly every answer is as due.
        seen(got == want ? method : method + "(" + i + ")", got, want);
    }

    private void seen(String call, long got, long want) {
        Due.is(got == want ? call : made + "\n  " + call, got, want);
    }
}
