/** Promises 20 to 25. */
final class EdgesOfOrders {
    private static final int MIN = Integer.MIN_VALUE, MAX = Integer.MAX_VALUE;

    private EdgesOfOrders() {
    }

    static void run() {
        tells();
        order();
        orderRow();
        needs();
        crew();
        reach();
        crier();
    }

    /** The two PERSONS of a call, p and q in it: both must be there, and not the same. */
    static void twoPersons(Edge e, String call) {
        e.bounds(States::six, call.replace("p", "#").replace("q", "5"), 0, 4);
        e.bounds(States::six, call.replace("p", "0").replace("q", "#"), 1, 5);
        e.outside(States::six, call.replace("p", "#").replace("q", "5"), 6);
        e.outside(States::six, call.replace("p", "0").replace("q", "#"), -1);
        for (int p = 0; p < 6; p++) e.outside(States::six, call.replace("p", "" + p).replace("q", "#"), p);
        e.outside(States::one, call.replace("p", "0").replace("q", "#"), MIN, -1, 0, 1, MAX);
        e.outside(States::bare, call.replace("p", "0").replace("q", "#"), MIN, -1, 0, 1, MAX);
        e.outside(States::nobody, call.replace("p", "#").replace("q", "0"), MIN, -1, 0, 1, MAX);
    }

    private static void tells() {
        Edge e = new Edge(20, "tells");
        twoPersons(e, "tells(p, q)");
        e.each(States::six, "tells(0, 3) = 1", "tells(2, 5) = 1", "tells(5, 2) = 1", "tells(2, 0) = 0",
            "tells(5, 4) = 0");
        Edge silent = new Edge(20, "tells, the other one not SILENT ahead of NOON");
        silent.goes(States.town("psms g13"), "tells(0, 1) = 0", "tells(1, 0) = 0", "tells(0, 2) = 1", "tells(2, 0) = 0",
            "tells(1, 3) = 1", "tells(3, 1) = 1", "noon() = 0", "tells(0, 1) = 1", "tells(1, 0) = 0", "tells(2, 1) = 0",
            "row 2: 0 0 0 0", "deal(2) = 1", "tells(0, 1) = 0");
    }

    private static void order() {
        Edge e = new Edge(21, "order");
        twoPersons(e, "order(p, q, 2)");
        e.bounds(States::six, "order(0, 5, #)", 0, 5);
        e.each(States::six, "order(0, 5, 0) = 1", "order(0, 5, 2) = 1", "order(0, 4, 0) = NONE",
            "order(0, 4, 2) = NONE");
        Edge order = new Edge(21, "order, BAD ahead of NONE");
        order.each(States::six, "order(0, 4, 6) = BAD", "order(0, 4, -1) = BAD", "order(4, 4, 0) = BAD");
        Edge most = new Edge(21, "order, by 0 to 4 MOUTHS");
        Edge.State chain = States.town("mmmmmm g50 g04 g41 g13 g32");
        most.each(chain, "order(5, 0, 2) = 0", "order(5, 4, 2) = 1", "order(5, 1, 2) = 2", "order(5, 3, 2) = 3",
            "order(5, 2, 2) = 4",
            "order(2, 5, 0) = 4", "order(3, 5, 1) = 3");
        most.each(States::two, "order(0, 1, 5) = 0");
    }

    private static void orderRow() {
        Edge e = new Edge(21, "order, the way comes to a ROW anew");
        Edge.State chain = States.town("mmmmmm g50 g04 g41 g13 g32");
        e.goes(chain, "order(2, 5, 0) = 4", "at(0, 0) = 1, asked 2", "at(0, 1) = 1, asked 3", "at(0, 2) = 1, asked 1",
            "at(0, 3) = 1, asked 4", "at(0, 4) = 1, asked 0", "at(0, 5) = 1, asked 5", "at(0, 6) = BEYOND",
            "count(6) = 4");
        e.goes(chain, "order(5, 0, 2) = 0", "at(2, 0) = 1, asked 5", "at(2, 1) = 1, asked 0", "at(2, 2) = BEYOND",
            "count(6) = 5");
        e.goes(chain, "order(5, 0, 1) = 0", "at(1, 1) = 1, asked 0", "count(6) = 4");
        e.goes(chain, "order(2, 5, 2) = 4", "order(4, 1, 2) = 0", "at(2, 2) = BEYOND", "order(0, 1, 2) = 1",
            "at(2, 1) = 1, asked 4", "at(2, 3) = BEYOND");
        Edge none = new Edge(21, "order, NONE leaves the ROW");
        none.goes(States::six, "order(0, 4, 3) = NONE", "at(3, 0) = 1, asked 1", "at(3, 5) = 1, asked 2",
            "order(0, 4, 2) = NONE",
            "at(2, 0) = NOTHING", "order(0, 4, 1) = NONE", "at(1, 0) = BEYOND");
        Edge first = new Edge(21, "order, the first by numbers");
        first.goes(States.town("mmmmmm g01 g02 g15 g25"), "order(0, 5, 2) = 1", "at(2, 1) = 1, asked 1",
            "order(5, 0, 2) = 1", "at(2, 1) = 1, asked 1", "order(1, 2, 2) = 1", "at(2, 1) = 1, asked 0");
        first.goes(States.town("mmmmmm g05 g53"), "order(0, 3, 2) = 1", "at(2, 1) = 1, asked 5");
        first.goes(States.town("mmmmmm g10 g05"), "order(1, 5, 2) = 1", "at(2, 1) = 1, asked 0");
        first.goes(States.town("mmmmmm g01 g02 g14 g23 g35 g45"), "order(0, 5, 2) = 2", "at(2, 1) = 1, asked 1",
            "at(2, 2) = 1, asked 4", "order(5, 0, 2) = 2", "at(2, 1) = 1, asked 3", "at(2, 2) = 1, asked 2");
    }

    private static void needs() {
        Edge e = new Edge(22, "needs");
        twoPersons(e, "needs(p, q)");
        e.each(States::six, "needs(0, 5) = 8, asked 1", "needs(0, 4) = 46, asked 0", "needs(0, 3) = 0, asked 1");
        e.each(States.town("mmmmmm g10 g05"), "needs(1, 5) = 1, asked 1", "needs(5, 1) = 1, asked 1");
        e.each(States.town("mmmmmm g05 g53"), "needs(0, 3) = 32, asked 1");
        Edge two = new Edge(22, "needs of two: no others");
        two.each(States::two, "needs(0, 1) = 0, asked 1", "needs(1, 0) = 0, asked 1");
        two.each(States.town("mm"), "needs(0, 1) = 0, asked 0");
        Edge all = new Edge(22, "needs, all others");
        all.each(States.town("mmmmmm g01 g12 g23 g34 g45"), "needs(0, 5) = 30, asked 1", "needs(5, 0) = 30, asked 1",
            "needs(1, 3) = 4, asked 1");
        all.each(States.town("mmmmmm"), "needs(0, 5) = 30, asked 0", "needs(2, 3) = 51, asked 0");
    }

    private static void crew() {
        Edge e = new Edge(23, "crew");
        e.each(States::bare, "crew() = STATE");
        e.each(States::nobody, "crew() = STATE");
        e.each(States::one, "crew() = 1, asked 1");
        e.each(States::two, "crew() = 2, asked 3");
        e.each(States::six, "crew() = 3, asked 42");
        e.each(States.town("pppppp"), "crew() = 6, asked 63");
        e.each(States.town("mmmmmm"), "crew() = 1, asked 1");
        e.each(States.town("mmmmmm g45"), "crew() = 2, asked 48");
        Edge least = new Edge(23, "crew, the least of as large ones");
        least.each(States.town("mmmmmm g05 g34"), "crew() = 2, asked 24");
        least.each(States.town("mmmmmm g01 g02 g12 g34 g35 g45"), "crew() = 3, asked 7");
        least.each(States.town("mmmmmm g05 g04 g45 g12 g13 g23"), "crew() = 3, asked 14");
        Edge both = new Edge(23, "crew, each TELLS each other one");
        both.each(States.town("pm"), "crew() = 1, asked 1");
        both.each(States.town("mp"), "crew() = 1, asked 1");
        both.each(States.town("mmmmmp"), "crew() = 1, asked 1");
        both.each(States.town("pmp"), "crew() = 2, asked 5");
    }

    private static void reach() {
        Edge e = new Edge(24, "reach");
        e.bounds(States::six, "reach(#)", 0, 5);
        e.bounds(States::one, "reach(#)", 0, 0);
        e.outside(States::nobody, "reach(#)", MIN, -1, 0, 1, MAX);
        e.each(States::six, "reach(0) = 47", "reach(2) = 47", "reach(4) = 16");
        e.each(States::one, "reach(0) = 1");
        e.each(States.town("mmmmmm"), "reach(0) = 1", "reach(5) = 32");
        e.each(States.town("pppppp"), "reach(0) = 63", "reach(5) = 63");
        e.each(States.town("mmmmmm g50 g04 g41 g13 g32"), "reach(5) = 63", "reach(2) = 63");
    }

    private static void crier() {
        Edge e = new Edge(25, "crier");
        e.each(States::bare, "crier() = STATE");
        e.each(States::nobody, "crier() = STATE");
        e.each(States::one, "crier() = 0, asked 0");
        e.each(States::six, "crier() = 0, asked 4");
        e.each(States.town("mmmmmm"), "crier() = 0, asked 0");
        Edge first = new Edge(25, "crier, the first");
        first.each(States.town("mmmmmp"), "crier() = 5, asked 5");
        first.each(States.town("mmmpmp"), "crier() = 3, asked 5");
        first.each(States.town("mmmmmm g23 g45"), "crier() = 2, asked 1");
        first.each(States.town("mmmmmm g23 g34 g01"), "crier() = 2, asked 2");
    }
}
