/** Promises 20 to 25: who tells whom now, ways, crews, reach. */
public final class OrdersTest {
    public static void main(String[] args) {
        tells();
        order();
        byTheFirst();
        orderRefused();
        needs();
        crew();
        reach();
        crier();
        Check.end("OrdersTest");
    }

    private static void dueTells(TonguesDealt x, String hour, String... rows) {
        for (int p = 0; p < rows.length; p++) {
            for (int q = 0; q < rows.length; q++) {
                int want = p == q ? Check.BAD : rows[p].charAt(q) - '0';
                Check.due("tells(" + p + ", " + q + ") " + hour, x.tells(p, q), want);
            }
        }
    }

    private static void tells() {
        TonguesDealt x = Check.dealt("pmslp g12", 1, 1, 1, 2, 1);
        dueTells(x, "ahead of noon", "-1001", "0-100", "01-00", "000-0", "1100-");
        x.noon();
        dueTells(x, "behind noon", "-1111", "0-100", "01-00", "111-1", "1111-");
        Check.due("tells(0, 5)", x.tells(0, 5), Check.BAD);
        Check.due("tells(-1, 0)", x.tells(-1, 0), Check.BAD);
        Check.due("tells without persons", new TonguesDealt().tells(0, 1), Check.BAD);
    }

    private static void order() {
        TonguesDealt x = Check.dealt("pppppp g01 g02 g13 g23 g34 g45", 0, 1, 2, 3, 1, 0);
        x.undo(0);
        Check.due("all alike", x.order(5, 1, 0), 0);
        Check.dueRow(x, "told at once", 0, 5, 1);
        TonguesDealt y = Check.dealt("mmmmmm g01 g02 g13 g23 g34 g45", 0, 1, 2, 3, 0, 1);
        Check.due("order(0, 5, 1)", y.order(0, 5, 1), 3);
        Check.dueRow(y, "the first way by numbers", 1, 0, 1, 3, 4, 5);
        Check.due("order(5, 0, 1)", y.order(5, 0, 1), 3);
        Check.dueRow(y, "the way back", 1, 5, 4, 3, 1, 0);
        Check.due("order(4, 3, 1)", y.order(4, 3, 1), 0);
        Check.dueRow(y, "a shorter row", 1, 4, 3);
        TonguesDealt z = Check.dealt("mmmmmm g05 g54 g43 g32 g21".replace("g54", "g45"), 0, 0, 0, 0, 0, 0);
        Check.due("four mouths", z.order(0, 1, 0), 4);
        Check.dueRow(z, "the way by four mouths", 0, 0, 5, 4, 3, 2, 1);
        Check.due("the row is there anew", z.count(6), 2);
        TonguesDealt one = Check.dealt("pm", 2, 2);
        Check.due("order(0, 1, 3)", one.order(0, 1, 3), 0);
        Check.due("order(1, 0, 3)", one.order(1, 0, 3), Check.NONE);
        Check.dueRow(one, "the row behind NONE", 3, 0, 1);
        Check.due("order(1, 0, 2)", one.order(1, 0, 2), Check.NONE);
        Check.finds(one, "no row by NONE", one.at(2, 0), Check.NOTHING);
    }

    /** All orders of the others go by the mouth of the first one. */
    private static void byTheFirst() {
        TonguesDealt x = Check.town("mmm g01 g02");
        Check.due("order(1, 2, 0) by 0", x.order(1, 2, 0), 1);
        Check.dueRow(x, "the way by 0", 0, 1, 0, 2);
        Check.due("needs(1, 2)", x.needs(1, 2), 1);
        Check.due("reach(1)", x.reach(1), 7);
        Check.due("crier()", x.crier(), 0);
        Check.due("the crier's others", x.asked(), 2);
        Check.fraction(x, "odds(1, 2, 0)", x.odds(1, 2, 0), 0, 1);
        Check.fraction(x, "odds(1, 2, 1)", x.odds(1, 2, 1), 1, 1);
        Check.fraction(x, "part(1, 2, 0)", x.part(1, 2, 0), 1, 1);
        Check.due("signs(1, 2)", x.signs(1, 2), 0);
        Check.due("reached whatever is dealt", x.asked(), 2);
        TonguesDealt chain = Check.town("mmmm g01 g12 g23");
        chain.crier();
        Check.due("the crier's others by mouths", chain.asked(), 3);
    }

    private static void orderRefused() {
        TonguesDealt x = Check.town("ppp");
        Check.due("order(0, 0, 0)", x.order(0, 0, 0), Check.BAD);
        Check.due("order(0, 3, 0)", x.order(0, 3, 0), Check.BAD);
        Check.due("order(-1, 0, 0)", x.order(-1, 0, 0), Check.BAD);
        Check.due("order(0, 1, 6)", x.order(0, 1, 6), Check.BAD);
        Check.due("order(0, 1, -1)", x.order(0, 1, -1), Check.BAD);
        Check.due("rows there", x.count(6), 0);
    }

    private static void needs() {
        TonguesDealt x = Check.dealt("mmmmmm g01 g12 g13 g24 g34", 0, 0, 0, 0, 0, 0);
        Check.due("needs(0, 4)", x.needs(0, 4), 2);
        Check.due("it goes", x.asked(), 1);
        Check.due("needs(0, 1)", x.needs(0, 1), 0);
        Check.due("it goes at once", x.asked(), 1);
        Check.due("needs(0, 5)", x.needs(0, 5), 30);
        Check.due("it does not go", x.asked(), 0);
        Check.due("needs(2, 3)", x.needs(2, 3), 0);
        Check.due("needs(0, 0)", x.needs(0, 0), Check.BAD);
        Check.due("needs(0, 6)", x.needs(0, 6), Check.BAD);
        Check.due("needs(-1, 6)", x.needs(-1, 6), Check.BAD);
        Check.due("asked() behind refusals", x.asked(), 1);
        TonguesDealt y = Check.dealt("mmmm g01 g12 g23", 0, 0, 0, 0);
        Check.due("needs(0, 3)", y.needs(0, 3), 6);
    }

    private static void crew() {
        Check.due("crew() without persons", new TonguesDealt().crew(), Check.STATE);
        TonguesDealt x = Check.dealt("pppppm", 0, 1, 1, 0, 2, 2);
        Check.due("crew()", x.crew(), 2);
        Check.due("the least of them, by number", x.asked(), 6);
        TonguesDealt y = Check.dealt("ppptpd", 3, 0, 0, 2, 2, 3);
        Check.due("crew() of four", y.crew(), 4);
        Check.due("a twin and a double join", y.asked(), 46);
        TonguesDealt z = Check.dealt("mms g01 g12", 0, 0, 0);
        Check.due("crew() by signs", z.crew(), 2);
        Check.due("the least by signs", z.asked(), 3);
        Check.due("crew() of one", Check.town("mm").crew(), 1);
        Check.due("crew() of all", Check.town("plldtt").crew(), 6);
    }

    private static void reach() {
        TonguesDealt x = Check.dealt("ppmsdp", 0, 1, 0, 0, 3, 3);
        Check.due("reach(0)", x.reach(0), 53);
        Check.due("reach(1)", x.reach(1), 2);
        Check.due("reach of a mute one", x.reach(2), 4);
        Check.due("reach(5)", x.reach(5), 53);
        x.noon();
        Check.due("reach(0) behind noon", x.reach(0), 61);
        Check.due("reach(6)", x.reach(6), Check.BAD);
        Check.due("reach(-1)", x.reach(-1), Check.BAD);
        Check.due("reach without persons", new TonguesDealt().reach(0), Check.BAD);
    }

    private static void crier() {
        Check.due("crier() without persons", new TonguesDealt().crier(), Check.STATE);
        TonguesDealt x = Check.dealt("mpppmp", 0, 1, 2, 2, 2, 1);
        Check.due("crier()", x.crier(), 2);
        Check.due("how many", x.asked(), 2);
        TonguesDealt y = Check.dealt("mm", 0, 0);
        Check.due("crier() of mute ones", y.crier(), 0);
        Check.due("none but itself", y.asked(), 0);
        TonguesDealt z = Check.dealt("mp g01", 0, 0);
        Check.due("the first of alike ones", z.crier(), 0);
        Check.due("one other", z.asked(), 1);
    }
}
