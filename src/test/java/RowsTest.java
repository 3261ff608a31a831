/** Promises 2 to 9: rows and texts. */
public final class RowsTest {
    private static final int MAX = Integer.MAX_VALUE, MIN = Integer.MIN_VALUE;

    public static void main(String[] args) {
        row();
        layAndAt();
        tear();
        copy();
        copyRefused();
        mean();
        text();
        put();
        Check.end("RowsTest");
    }

    private static void row() {
        TonguesDealt x = new TonguesDealt();
        Check.due("row(0, 40)", x.row(0, 40), 40);
        Check.due("row(5, 0)", x.row(5, 0), 0);
        Check.due("rows there", x.count(6), 2);
        Check.asks(x, "at(0, 39)", x.at(0, 39), 0);
        x.lay(0, 3, 7);
        Check.due("row(0, 5) anew", x.row(0, 5), 5);
        Check.asks(x, "at(0, 3) anew", x.at(0, 3), 0);
        Check.due("row(-1, 0)", x.row(-1, 0), Check.BAD);
        Check.due("row(6, 0)", x.row(6, 0), Check.BAD);
        Check.due("row(0, 41)", x.row(0, 41), Check.BAD);
        Check.due("row(0, MAX)", x.row(0, MAX), Check.BAD);
        Check.due("row(6, -1)", x.row(6, -1), Check.BAD);
        Check.due("no finding yet", x.finding(), 0);
        Check.finds(x, "row(0, -1)", x.row(0, -1), Check.SIZE);
        Check.finds(x, "row(1, MIN)", x.row(1, MIN), Check.SIZE);
        Check.due("rows there behind refusals", x.count(6), 2);
        Check.finds(x, "at(0, 5) behind refusals", x.at(0, 5), Check.BEYOND);
    }

    private static void layAndAt() {
        TonguesDealt x = new TonguesDealt();
        x.row(2, 3);
        Check.asks(x, "lay(2, 0, MIN)", x.lay(2, 0, MIN), 0);
        Check.asks(x, "lay(2, 0, 9)", x.lay(2, 0, 9), MIN);
        Check.asks(x, "lay(2, 2, 4)", x.lay(2, 2, 4), 0);
        Check.asks(x, "at(2, 0)", x.at(2, 0), 9);
        Check.asks(x, "at(2, 2)", x.at(2, 2), 4);
        Check.due("lay(6, 0, 1)", x.lay(6, 0, 1), Check.BAD);
        Check.due("lay(-1, 0, 1)", x.lay(-1, 0, 1), Check.BAD);
        Check.due("at(6, 0)", x.at(6, 0), Check.BAD);
        Check.due("at(MIN, 0)", x.at(MIN, 0), Check.BAD);
        Check.finds(x, "lay(1, 0, 1)", x.lay(1, 0, 1), Check.NOTHING);
        Check.finds(x, "at(1, -1)", x.at(1, -1), Check.NOTHING);
        Check.finds(x, "lay(2, 3, 1)", x.lay(2, 3, 1), Check.BEYOND);
        Check.finds(x, "lay(2, -1, 1)", x.lay(2, -1, 1), Check.BEYOND);
        Check.finds(x, "at(2, MAX)", x.at(2, MAX), Check.BEYOND);
        Check.due("asked() behind refusals", x.asked(), 4);
        Check.dueRow(x, "the row behind refusals", 2, 9, 0, 4);
    }

    private static void tear() {
        TonguesDealt x = new TonguesDealt();
        x.row(3, 2);
        Check.due("tear(3)", x.tear(3), 1);
        Check.due("rows there", x.count(6), 0);
        Check.finds(x, "tear(3) again", x.tear(3), Check.NOTHING);
        Check.due("tear(6)", x.tear(6), Check.BAD);
        Check.due("tear(-1)", x.tear(-1), Check.BAD);
    }

    private static void copy() {
        TonguesDealt x = new TonguesDealt();
        Check.layRow(x, 0, 1, 2, 3, 4, 5);
        Check.layRow(x, 1, 9, 9, 9);
        Check.due("copy(0, 3, 1, 1, 2)", x.copy(0, 3, 1, 1, 2), 1);
        Check.dueRow(x, "the other row", 1, 9, 4, 5);
        Check.due("copy up within itself", x.copy(0, 0, 0, 1, 4), 1);
        Check.dueRow(x, "itself, up", 0, 1, 1, 2, 3, 4);
        Check.due("copy down within itself", x.copy(0, 1, 0, 0, 4), 1);
        Check.dueRow(x, "itself, down", 0, 1, 2, 3, 4, 4);
        Check.due("copy of none at the end", x.copy(0, 5, 1, 3, 0), 1);
        Check.dueRow(x, "the row it came from", 0, 1, 2, 3, 4, 4);
    }

    private static void copyRefused() {
        TonguesDealt x = new TonguesDealt();
        Check.layRow(x, 0, 1, 2, 3);
        Check.layRow(x, 1, 9, 9);
        Check.due("copy from 6", x.copy(6, 0, 0, 0, -1), Check.BAD);
        Check.due("copy to -1", x.copy(0, 0, -1, 0, -1), Check.BAD);
        Check.finds(x, "copy of -1, missing", x.copy(5, 0, 0, 0, -1), Check.SIZE);
        Check.finds(x, "copy from a missing one", x.copy(5, 9, 0, 0, 1), Check.NOTHING);
        Check.finds(x, "copy to a missing one", x.copy(0, 9, 5, 0, 1), Check.NOTHING);
        Check.finds(x, "copy of too many", x.copy(0, 0, 1, 0, 3), Check.BEYOND);
        Check.finds(x, "copy from behind", x.copy(0, 2, 1, 0, 2), Check.BEYOND);
        Check.finds(x, "copy from -1", x.copy(0, -1, 1, 0, 1), Check.BEYOND);
        Check.finds(x, "copy to -1", x.copy(0, 0, 1, -1, 1), Check.BEYOND);
        Check.finds(x, "copy of MAX", x.copy(0, 1, 1, 1, MAX), Check.BEYOND);
        Check.finds(x, "copy from MAX", x.copy(0, MAX, 1, 0, 1), Check.BEYOND);
        Check.finds(x, "copy of none from beyond", x.copy(0, 4, 1, 0, 0), Check.BEYOND);
        Check.dueRow(x, "the row behind refusals", 1, 9, 9);
    }

    private static void mean() {
        TonguesDealt x = new TonguesDealt();
        Check.layRow(x, 0, 3, 4, 4);
        Check.asks(x, "mean of 3 4 4", x.mean(0), 3);
        Check.layRow(x, 0, -3, -4);
        Check.asks(x, "mean of -3 -4", x.mean(0), -3);
        Check.layRow(x, 0, MAX, MAX, MAX);
        Check.asks(x, "mean of MAX", x.mean(0), MAX);
        Check.layRow(x, 0, MIN, MIN);
        Check.asks(x, "mean of MIN", x.mean(0), MIN);
        x.row(1, 0);
        Check.finds(x, "mean of none", x.mean(1), Check.NOUGHT);
        Check.finds(x, "mean of a missing one", x.mean(2), Check.NOTHING);
        Check.due("mean(6)", x.mean(6), Check.BAD);
        Check.due("mean(-1)", x.mean(-1), Check.BAD);
        Check.due("asked() behind refusals", x.asked(), MIN);
    }

    private static void text() {
        TonguesDealt x = new TonguesDealt();
        Check.due("text(3, 60)", x.text(3, 60), 60);
        Check.due("text(0, 0)", x.text(0, 0), 0);
        Check.due("texts there", x.count(7), 2);
        Check.due("put(3, 59, 0)", x.put(3, 59, 0), 1032);
        Check.due("text(3, 60) anew", x.text(3, 60), 60);
        Check.due("put(3, 59, 1) anew", x.put(3, 59, 1), 1032);
        Check.due("text(4, 1)", x.text(4, 1), Check.BAD);
        Check.due("text(-1, -1)", x.text(-1, -1), Check.BAD);
        Check.due("text(0, 61)", x.text(0, 61), Check.BAD);
        Check.finds(x, "text(1, -1)", x.text(1, -1), Check.SIZE);
        Check.due("texts there behind refusals", x.count(7), 2);
    }

    private static void put() {
        TonguesDealt x = new TonguesDealt();
        x.text(1, 2);
        Check.due("put(1, 0, 127)", x.put(1, 0, 127), 1032);
        Check.due("put(1, 0, 128)", x.put(1, 0, 128), 1127);
        Check.due("put(1, 0, 511)", x.put(1, 0, 511), 1000 - 128);
        Check.due("put(1, 0, MIN)", x.put(1, 0, MIN), 999);
        Check.due("put(1, 0, 5)", x.put(1, 0, 5), 1000);
        Check.due("put(4, 0, 5)", x.put(4, 0, 5), Check.BAD);
        Check.due("put(-1, 0, 5)", x.put(-1, 0, 5), Check.BAD);
        Check.finds(x, "put(0, 0, 5)", x.put(0, 0, 5), Check.NOTHING);
        Check.finds(x, "put(1, 2, 5)", x.put(1, 2, 5), Check.BEYOND);
        Check.finds(x, "put(1, -1, 5)", x.put(1, -1, 5), Check.BEYOND);
    }
}
