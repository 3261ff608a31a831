/** Promises 26 to 28. */
final class EdgesOfChances {
    private static final int MIN = Integer.MIN_VALUE, MAX = Integer.MAX_VALUE;

    private EdgesOfChances() {
    }

    static void run() {
        signs();
        signsKnown();
        odds();
        oddsEnds();
        part();
        partEnds();
    }

    private static void signs() {
        Edge e = new Edge(26, "signs");
        EdgesOfOrders.twoPersons(e, "signs(p, q)");
        e.each(States::six, "signs(0, 5) = 1, asked 1", "signs(0, 4) = 1, asked 1", "signs(0, 3) = 0, asked 1");
        Edge none = new Edge(26, "signs, NONE: two persons alone");
        none.each(States::two, "signs(0, 1) = NONE, asked 0", "signs(1, 0) = NONE, asked 0");
        none.each(States.town("mp a01"), "signs(0, 1) = NONE, asked 0", "signs(1, 0) = 0, asked 1");
        none.each(States.town("pp g01"), "signs(0, 1) = 0, asked 1");
        none.each(States.town("pp a01"), "signs(0, 1) = 0, asked 1");
        Edge few = new Edge(26, "signs, 0, 1 or 2");
        few.each(States.town("ppp"), "signs(0, 1) = 2, asked 0", "signs(2, 0) = 2, asked 0");
        few.each(States.town("ppp g02"), "signs(0, 1) = 1, asked 1", "signs(1, 0) = 1, asked 0");
        few.each(States.town("ppp g02 g12"), "signs(0, 1) = 0, asked 2");
        few.each(States.town("mmmmmm"), "signs(0, 5) = 2, asked 0");
        few.each(States.town("mmmmmm g01 g12 g34 g45"), "signs(0, 5) = 1, asked 2");
        few.each(States.town("mmmmmm g01 g12 g34"), "signs(0, 5) = 1, asked 2", "signs(0, 3) = 1, asked 2");
        few.each(States.town("mmmmmm g01 g12 g23 g34 g45"), "signs(0, 5) = 0, asked 5");
        few.each(States.town("mmmm g03"), "signs(1, 3) = 1, asked 0", "signs(3, 1) = 1, asked 1",
            "signs(1, 0) = 1, asked 0");
        Edge between = new Edge(26, "signs, none between the two themselves");
        between.each(States.town("pps a01"), "signs(0, 2) = 1, asked 1", "signs(2, 0) = 1, asked 0");
        between.each(States.town("ppp a01"), "signs(2, 0) = 1, asked 0", "signs(0, 1) = 0, asked 1");
    }

    private static void signsKnown() {
        Edge e = new Edge(26, "signs, with the SIGNS that there are, NOON or not as it is");
        e.goes(States.town("ppp"), "sign(0, 1) = 1", "signs(0, 2) = 1, asked 1", "sign(1, 2) = 2",
            "signs(0, 2) = 0, asked 2",
            "undo(1) = 1", "signs(0, 2) = 1, asked 1", "count(3) = 1", "count(4) = 1");
        e.goes(States.town("lp"), "signs(0, 1) = NONE, asked 0", "noon() = 0", "signs(0, 1) = 0, asked 1",
            "signs(1, 0) = 0, asked 1",
            "undo(0) = 1", "signs(0, 1) = NONE, asked 0");
        e.goes(States.town("pl"), "noon() = 0", "signs(0, 1) = 0, asked 1");
        e.goes(States.town("pt"), "signs(0, 1) = 0, asked 1", "signs(1, 0) = 0, asked 1");
        e.goes(States.town("tp"), "signs(0, 1) = 0, asked 1");
        Edge deal = new Edge(26, "signs, whatever is dealt: not as it is dealt now");
        deal.goes(States.town("ppp"), "tells(0, 1) = 1", "signs(0, 1) = 2, asked 0", "row 2: 1 2 3", "deal(2) = 1",
            "signs(0, 1) = 2, asked 0", "person(1, 1) = 1, asked 2");
    }

    private static void odds() {
        Edge e = new Edge(27, "odds");
        EdgesOfOrders.twoPersons(e, "odds(p, q, 0)");
        e.bounds(States::six, "odds(0, 5, #)", 0, 4);
        e.bounds(States::two, "odds(0, 1, #)", 0, 4);
        e.outside(States::nobody, "odds(0, 1, #)", MIN, -1, 0, 4, 5, MAX);
        e.each(States::six, "odds(0, 3, 0) = 1, 1 by 1", "odds(0, 1, 0) = 1, 1 by 4", "odds(0, 1, 2) = 1, 83 by 128",
            "odds(2, 0, 4) = 1, 3 by 4",
            "odds(0, 4, 4) = 1, 0 by 1", "odds(0, 4, 0) = 1, 0 by 1");
    }

    private static void oddsEnds() {
        Edge e = new Edge(27, "odds, by n MOUTHS at most");
        Edge.State chain = States.town("mmmmmm g01 g12 g23 g34 g45");
        for (int q = 1; q < 6; q++) {
            for (int n = 0; n < 5; n++) e.each(chain, "odds(0, " + q + ", " + n + ") = 1, " + (q - 1 <= n ? 1 : 0) + " by 1");
        }
        Edge terms = new Edge(27, "odds, in lowest terms, 0 by 1");
        terms.each(States::two, "odds(0, 1, 0) = 1, 1 by 4", "odds(1, 0, 4) = 1, 1 by 4");
        terms.each(States.town("dp"), "odds(0, 1, 0) = 1, 1 by 2");
        terms.each(States.town("dd"), "odds(0, 1, 0) = 1, 3 by 4");
        terms.each(States.town("mp"), "odds(0, 1, 0) = 1, 0 by 1", "odds(1, 0, 0) = 1, 1 by 4");
        terms.each(States.town("pppppp a01 a12 a23 a34 a45"), "odds(0, 5, 0) = 1, 1 by 1", "odds(3, 2, 4) = 1, 1 by 1");
        terms.each(States.town("mmmmmm a01 a12 a23 a34 a45"), "odds(0, 5, 4) = 1, 0 by 1");
        Edge noon = new Edge(27, "odds, NOON or not as it is now");
        noon.goes(States.town("ps"), "odds(0, 1, 0) = 1, 0 by 1", "noon() = 0", "odds(0, 1, 0) = 1, 1 by 4",
            "odds(1, 0, 4) = 1, 0 by 1",
            "row 2: 1 2", "deal(2) = 1", "odds(0, 1, 0) = 1, 0 by 1");
        noon.goes(States.town("lp"), "odds(0, 1, 0) = 1, 1 by 4", "noon() = 0", "odds(0, 1, 0) = 1, 1 by 1",
            "undo(0) = 1", "odds(1, 0, 0) = 1, 1 by 4");
    }

    private static void part() {
        Edge e = new Edge(28, "part");
        Edge.State star = States.town("mmmmmm g01 g15");
        e.bounds(star, "part(#, 5, 1)", 0, 0);
        e.bounds(star, "part(0, #, 1)", 2, 5);
        e.bounds(star, "part(0, 5, #)", 1, 4);
        e.outside(star, "part(#, 5, 1)", 1, 5, 6);
        e.outside(star, "part(0, #, 1)", 0, -1, 1);
        e.outside(star, "part(0, 5, #)", 0, 5, 6, -1);
        e.outside(States::two, "part(0, 1, #)", MIN, -1, 0, 1, 2, MAX);
        e.outside(States::one, "part(0, 0, #)", MIN, -1, 0, 1, MAX);
        e.outside(States::nobody, "part(0, 1, #)", MIN, -1, 0, 1, 2, MAX);
        Edge state = new Edge(28, "part, STATE: it goes at once, or not at all");
        state.each(star, "part(0, 1, 2) = STATE", "part(1, 5, 0) = STATE", "part(0, 4, 1) = STATE",
            "part(2, 3, 4) = STATE");
        state.each(States.town("mmm"), "part(0, 2, 1) = STATE");
        state.each(States.town("mmm g01 g12 g02"), "part(0, 2, 1) = STATE");
        Edge order = new Edge(28, "part, BAD ahead of STATE");
        order.each(star, "part(0, 1, 6) = BAD", "part(0, 1, 1) = BAD", "part(0, 4, 0) = BAD", "part(4, 4, 0) = BAD");
    }

    private static void partEnds() {
        Edge e = new Edge(28, "part, all of it, none of it, in lowest terms");
        Edge.State star = States.town("mmmmmm g01 g15");
        e.each(star, "part(0, 5, 1) = 1, 1 by 1", "part(0, 5, 2) = 1, 0 by 1", "part(0, 5, 4) = 1, 0 by 1");
        e.each(States.town("mmm g01 g12"), "part(0, 2, 1) = 1, 1 by 1");
        e.each(States::six, "part(0, 5, 1) = 1, 0 by 1", "part(0, 5, 3) = 1, 1 by 1", "part(2, 0, 5) = 1, 1 by 2");
        Edge.State chain = States.town("mmmmmm g01 g12 g23 g34 g45");
        for (int m = 1; m < 5; m++) e.each(chain, "part(0, 5, " + m + ") = 1, 1 by 4",
            "part(5, 0, " + m + ") = 1, 1 by 4");
        Edge.State wide = States.town("mmmmmm g01 g02 g03 g04 g15 g25 g35 g45");
        for (int m = 1; m < 5; m++) e.each(wide, "part(0, 5, " + m + ") = 1, 1 by 4");
        e.each(States.town("mmm g01 g02"), "part(1, 2, 0) = 1, 1 by 1", "part(2, 1, 0) = 1, 1 by 1");
        Edge.State idle = States.town("mmmmm g01 g12 g23");
        e.each(idle, "part(0, 3, 1) = 1, 1 by 2", "part(0, 3, 2) = 1, 1 by 2", "part(0, 3, 4) = 1, 0 by 1");
        Edge.State mixed = States.town("mmmmmm g01 g15 g02 g23 g34 g45");
        e.each(mixed, "part(0, 5, 1) = 1, 3 by 4", "part(0, 5, 2) = 1, 1 by 12", "part(0, 5, 4) = 1, 1 by 12");
    }
}
