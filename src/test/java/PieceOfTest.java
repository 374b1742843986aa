/** Promise 13: pieceOf. */
public final class PieceOfTest {
    private static final int MIN = Columns.MIN;
    private static final int MAX = Columns.MAX;

    public static void main(String[] args) {
        cutsUpToTheValue();
        aValueEqualToACut();
        fromZeroToCutCount();
        removedAlike();
        noCutsAtAll();
        theExtremes();
        anIdBelowZero();
        anIdOfRowLimitOrMore();
        aFreeId();
        anAddedId();
        whenCutsCome();
        whenCutsGo();
        whenTheRowIsSettledOrGone();
        nothingChanges();
        Due.end();
    }

    private static void none(CrackedColumn x, int id) {
        Columns.changesNothing(x, "pieceOf(" + id + ")", CrackedColumn.NONE, () -> x.pieceOf(id));
    }

    private static void pieces(CrackedColumn x, int ids, String want) {
        Due.same(Columns.rows(x) + " " + Columns.cuts(x), Columns.pieces(x, ids), "pieces " + want);
    }

    private static void cutsUpToTheValue() {
        Due.says("13: the number of cuts whose value is smaller than or equal to the row's value");
        CrackedColumn x = Columns.settled(35, 5, 15, 25, -5);
        x.select(10, 30);
        x.select(0, 20);
        pieces(x, 5, "4 1 2 3 0");
    }

    private static void aValueEqualToACut() {
        Due.says("13: smaller than or equal to the row's value (equal)");
        CrackedColumn x = Columns.settled(9, 10, 11, 19, 20, 21);
        x.select(10, 20);
        pieces(x, 6, "0 1 1 1 2 2");
        CrackedColumn zero = Columns.settled(-1, 0, 1);
        zero.select(0, 5);
        pieces(zero, 3, "0 1 1");
    }

    private static void fromZeroToCutCount() {
        Due.says("13: from 0 to cutCount()");
        CrackedColumn x = Columns.sixteenCuts(-1, 0, 7, 14, 15, 99);
        pieces(x, 6, "0 1 8 15 16 16");
        CrackedColumn one = Columns.settled(4, 5);
        one.select(5, 9);
        one.forgetCut(1);
        pieces(one, 2, "0 1");
    }

    private static void removedAlike() {
        Due.says("13: this holds for SETTLED and REMOVED ids alike");
        CrackedColumn x = Columns.settled(9, 10, 20, 9, 10, 20);
        x.select(10, 20);
        for (int id = 3; id < 6; id++) {
            x.delete(id);
        }
        pieces(x, 6, "0 1 2 0 1 2");
        x.restore(5);
        pieces(x, 6, "0 1 2 0 1 2");
    }

    private static void noCutsAtAll() {
        Due.says("13: with no cuts it is 0");
        CrackedColumn x = Columns.settled(MIN, -1, 0, 1, MAX - 1);
        x.delete(4);
        pieces(x, 5, "0 0 0 0 0");
    }

    private static void theExtremes() {
        Due.says("13: cuts whose value is smaller than or equal (-2147483648 and 2147483647)");
        CrackedColumn x = Columns.settled(MIN, 0, MAX - 1);
        x.select(MIN, MAX);
        pieces(x, 3, "1 1 1");
        x.select(MIN + 1, MAX - 1);
        pieces(x, 3, "1 2 3");
    }

    private static void anIdBelowZero() {
        Due.says("13: NONE if id < 0");
        for (int id : Columns.TOO_SMALL) {
            none(Columns.oneOfEach(), id);
            none(Columns.thirtyTwo(5), id);
        }
    }

    private static void anIdOfRowLimitOrMore() {
        Due.says("13: NONE if id >= rowLimit");
        for (int id : Columns.TOO_LARGE) {
            none(Columns.oneOfEach(), id);
            none(Columns.thirtyTwo(5), id);
        }
        none(Columns.oneOfEach(), 6);
        none(Columns.oneOfEach(), 31);
        Due.is("pieceOf(31)", Columns.thirtyTwo(5).pieceOf(31), 0);
    }

    private static void aFreeId() {
        Due.says("13: NONE if the id is FREE");
        none(Columns.oneOfEach(), 3);
        none(Columns.oneOfEach(), 5);
        none(new CrackedColumn(4, 4, 4), 0);
    }

    private static void anAddedId() {
        Due.says("13: NONE if the id is ADDED");
        none(Columns.oneOfEach(), 1);
        none(Columns.added(5), 0);
    }

    private static void whenCutsCome() {
        Due.says("13: it always answers for the cuts as they are now (cuts were added)");
        CrackedColumn x = Columns.settled(10, 30);
        x.select(5, 20);
        pieces(x, 2, "1 2");
        x.select(7, 8);
        pieces(x, 2, "3 4");
        x.select(40, 50);
        pieces(x, 2, "3 4");
        x.select(20, 10);
        pieces(x, 2, "3 4");
    }

    private static void whenCutsGo() {
        Due.says("13: it always answers for the cuts as they are now (cuts were forgotten)");
        CrackedColumn x = Columns.settled(10, 30);
        x.select(10, 20);
        x.forgetCut(1);
        pieces(x, 2, "1 1");
        x.forgetCut(0);
        pieces(x, 2, "0 0");
    }

    private static void whenTheRowIsSettledOrGone() {
        Due.says("13: the piece in which a stored row lies (from the select that stores it to the one that frees it)");
        CrackedColumn x = Columns.added(15);
        x.select(20, 30);
        none(x, 0);
        x.select(10, 20);
        pieces(x, 1, "1");
        x.delete(0);
        pieces(x, 1, "1");
        x.select(10, 20);
        none(x, 0);
    }

    private static void nothingChanges() {
        Due.says("13: nothing changes");
        CrackedColumn x = Columns.oneOfEach();
        Columns.changesNothing(x, "pieceOf(0)", 1, () -> x.pieceOf(0));
        Columns.changesNothing(x, "pieceOf(2)", 1, () -> x.pieceOf(2));
    }
}
