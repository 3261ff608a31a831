/** Promises 1 and 35 to 41: a new object, and what is told. */
public final class ToldTest {
    public static void main(String[] args) {
        anew();
        asked();
        upperAndLower();
        count();
        findings();
        digest();
        refusalsChangeNothing();
        Check.end("ToldTest");
    }

    private static void anew() {
        TonguesDealt x = new TonguesDealt();
        for (int what = 0; what < 9; what++) Check.due("count(" + what + ")", x.count(what), 0);
        Check.due("asked()", x.asked(), 0);
        Check.due("upper()", x.upper(), 0);
        Check.due("lower()", x.lower(), 1);
        Check.due("finding()", x.finding(), 0);
        for (int f = 1; f < 6; f++) Check.due("findings(" + f + ")", x.findings(f), 0);
        for (int r = 0; r < 6; r++) Check.finds(x, "at(" + r + ", 0)", x.at(r, 0), Check.NOTHING);
        for (int t = 0; t < 4; t++) Check.finds(x, "fault(" + t + ")", x.fault(t), Check.NOTHING);
        for (int k = 0; k < 3; k++) Check.finds(x, "on(" + k + ")", x.on(k), Check.NOTHING);
        Check.due("a second object is its own", new TonguesDealt().findings(1), 0);
    }

    private static void asked() {
        TonguesDealt x = Check.dealt("ppp", 0, 0, 1);
        Check.layRow(x, 0, 8, 6);
        Check.asks(x, "mean", x.mean(0), 7);
        Check.asks(x, "lay", x.lay(0, 0, 5), 8);
        Check.asks(x, "at", x.at(0, 1), 6);
        Check.asks(x, "person", x.person(2, 2), 2);
        x.needs(0, 1);
        Check.due("needs", x.asked(), 1);
        x.crew();
        Check.due("crew", x.asked(), 3);
        x.crier();
        Check.due("crier", x.asked(), 1);
        x.signs(0, 1);
        Check.due("signs", x.asked(), 0);
        Check.layRow(x, 1, 2, 3, 2);
        x.houses(1);
        Check.due("houses", x.asked(), 5);
        x.tells(0, 1);
        x.order(0, 1, 2);
        x.reach(0);
        x.odds(0, 1, 1);
        x.rule(1, 0);
        x.broken(1);
        x.shouted(3);
        x.mark(0, 1);
        x.lots(1, 1);
        x.undo(0);
        x.town(0);
        x.digest();
        Check.due("others tell nothing by asked()", x.asked(), 5);
    }

    private static void upperAndLower() {
        TonguesDealt x = Check.town("ppp g01 g12");
        Check.fraction(x, "odds(0, 2, 0)", x.odds(0, 2, 0), 1, 4);
        x.crew();
        x.lots(1, 1);
        x.town(0);
        Check.due("upper() stays", x.upper(), 1);
        Check.due("lower() stays", x.lower(), 4);
        x.row(0, 0);
        Check.fraction(x, "calls(0)", x.calls(0), 64, 1);
        TonguesDealt y = Check.town("mmm g01 g12");
        Check.fraction(y, "part(0, 2, 1)", y.part(0, 2, 1), 1, 1);
    }

    private static void count() {
        TonguesDealt x = Check.dealt("pldmst g01 g23", 0, 1, 2, 3, 0, 1);
        x.noon();
        x.sign(0, 5);
        x.row(0, 3);
        x.text(3, 0);
        x.keep(0);
        x.keep(2);
        int[] want = {6, 1, 1, 3, 3, 2, 2, 2, 2};
        for (int what = 0; what < 9; what++) {
            Check.due("count(" + what + ")", x.count(what), want[what]);
        }
        Check.due("count(9)", x.count(9), Check.BAD);
        Check.due("count(-1)", x.count(-1), Check.BAD);
    }

    private static void findings() {
        TonguesDealt x = new TonguesDealt();
        x.tear(0);
        x.on(1);
        x.row(0, 0);
        x.at(0, 0);
        x.mean(0);
        x.row(0, -1);
        Check.due("the latest", x.finding(), 5);
        int[] want = {2, 1, 0, 1, 1};
        for (int f = 1; f < 6; f++) Check.due("findings(" + f + ")", x.findings(f), want[f - 1]);
        x.row(9, 9);
        x.row(0, 1);
        Check.due("the latest stays", x.finding(), 5);
        Check.due("findings(0)", x.findings(0), Check.BAD);
        Check.due("findings(6)", x.findings(6), Check.BAD);
        Check.due("findings(-1)", x.findings(-1), Check.BAD);
    }

    private static long mix(long h, long... values) {
        for (long v : values) h = 31 * h + v;
        return h;
    }

    private static void digest() {
        TonguesDealt x = new TonguesDealt();
        long empty = mix(17, 0, 0, 0, 0, 0, 0, 0, 0, 0, -1, -1, -1);
        Check.due("digest() anew", x.digest(), mix(empty, -1, -1, -1, -1, -1, -1, -1, -1, -1, -1));
        Check.layRow(x, 1, 5, -7);
        x.text(3, 2);
        x.put(3, 1, 255);
        long h = mix(17, 0, 0, 0, 0, 0, 0, 1, 1, 0, -1, -1, -1);
        h = mix(h, -1, 2, 5, -7, -1, -1, -1, -1, -1, -1, -1, 2, 32, -1);
        Check.due("digest() with a row and a text", x.digest(), h);
        Check.write(x, 0, "lp a01 g10");
        x.town(0);
        x.keep(1);
        Check.layRow(x, 1, 3, 3);
        x.deal(1);
        h = mix(17, 2, 1, 0, 1, 1, 1, 1, 2, 1);
        h = mix(h, 1, 3, 8, 3, 2, 0, 3, 8, 3, 1);
        h = mix(h, -1, 0, -1, -1, 2, 3, 3, -1, -1, -1, -1);
        h = mix(h, 10, 'l', 'p', ' ', 'a', '0', '1', ' ', 'g', '1', '0', -1, -1, 2, 32, -1);
        Check.due("digest() with a town", x.digest(), h);
        int before = x.asked();
        x.digest();
        Check.due("digest() tells nothing by asked()", x.asked(), before);
    }

    private static void refusalsChangeNothing() {
        TonguesDealt x = Check.dealt("plm a01", 2, 2, 1);
        x.keep(0);
        Check.layRow(x, 0, 0, 1, 0);
        x.text(1, 3);
        x.odds(0, 1, 0);
        long before = x.digest();
        int told = x.asked();
        x.deal(0);
        x.deal(2);
        x.town(1);
        x.noon();
        x.undo(1);
        Check.due("noon undone", x.digest(), before);
        x.sign(1, 1);
        x.undo(7);
        x.keep(5);
        x.on(2);
        x.order(0, 0, 0);
        x.copy(0, 0, 0, 2, 2);
        x.put(1, 3, 5);
        x.lots(0, 0);
        x.part(0, 1, 2);
        x.calls(3);
        x.houses(3);
        Check.due("digest() behind refusals", x.digest(), before);
        Check.due("asked() behind refusals", x.asked(), told);
        Check.due("upper() behind refusals", x.upper(), 1);
        Check.due("lower() behind refusals", x.lower(), 1);
    }
}
