/** Promises 14 to 19. */
final class EdgesOfDeeds {
    private EdgesOfDeeds() {
    }

    static void run() {
        deal();
        dealOrder();
        dealFull();
        noon();
        sign();
        signsAll();
        undo();
        keep();
        on();
    }

    /** A state with ROW 2 written besides. */
    private static Edge.State with(Edge.State state, int... places) {
        return () -> {
            TonguesDealt x = state.made();
            Check.layRow(x, 2, places);
            x.at(0, 7);
            return x;
        };
    }

    private static void deal() {
        Edge e = new Edge(14, "deal");
        e.bounds(States::six, "deal(#)", 0, 5);
        e.each(States::six, "deal(3) = 2", "deal(2) = NOTHING", "deal(5) = NOTHING", "deal(1) = SIZE",
            "deal(0) = SIZE", "deal(4) = SIZE");
        e.each(with(States::six, 1, 2, 3, 1, 0), "deal(2) = SIZE");
        e.each(with(States::six, 1, 2, 3, 1, 0, 2, 0), "deal(2) = SIZE");
        e.each(with(States::one, 3), "deal(2) = 1");
        e.each(with(States::one, 3, 3), "deal(2) = SIZE");
        e.each(with(States::one), "deal(2) = SIZE");
        Edge tongue = new Edge(14, "deal, UNLIKE: no TONGUE");
        for (int p = 0; p < 6; p++) {
            for (int v : new int[] {-1, 4, Integer.MIN_VALUE, Integer.MAX_VALUE}) {
                int[] places = {1, 2, 3, 1, 0, 2};
                places[p] = v;
                if (p == 0) places[3] = v;
                tongue.each(with(States::six, places), "deal(2) = UNLIKE");
            }
        }
        for (int v = 0; v < 4; v++) tongue.each(with(States::one, v), "deal(2) = 1");
        tongue.each(with(States::one, -1), "deal(2) = UNLIKE");
        tongue.each(with(States::one, 4), "deal(2) = UNLIKE");
        Edge house = new Edge(14, "deal, UNLIKE: a house does not agree");
        house.each(with(States::six, 1, 2, 3, 0, 0, 2), "deal(2) = UNLIKE");
        house.each(with(States::six, 0, 0, 0, 0, 0, 0), "deal(2) = 2");
        house.each(with(States.town("pppp a01 a12"), 1, 1, 2, 0), "deal(2) = UNLIKE");
        house.each(with(States.town("pppp a01 a12"), 2, 1, 1, 0), "deal(2) = UNLIKE");
        house.each(with(States.town("pppp a01 a12"), 1, 1, 1, 0), "deal(2) = 1");
        house.each(with(States.town("pppp a32 a13"), 1, 0, 0, 0), "deal(2) = 1");
        house.each(with(States.town("pppp a32 a13"), 0, 0, 1, 1), "deal(2) = UNLIKE");
    }

    private static void dealOrder() {
        Edge e = new Edge(14, "deal, BAD, STATE, NOTHING, SIZE, UNLIKE, FULL in this order");
        e.each(States::nobody, "deal(6) = BAD", "deal(-1) = BAD", "deal(2) = STATE", "deal(0) = STATE",
            "deal(1) = STATE");
        e.each(States::bare, "deal(0) = STATE", "deal(MAX) = BAD");
        e.each(with(States::six, 9, 9), "deal(2) = SIZE");
        e.each(States::sixFull, "deal(6) = BAD", "deal(2) = NOTHING", "deal(0) = SIZE", "deal(1) = SIZE",
            "deal(3) = FULL");
        e.each(with(States::sixFull, 1, 2, 3, 0, 0, 2), "deal(2) = UNLIKE");
        e.each(with(States::sixFull, 1, 2, 3, 1, 0, 4), "deal(2) = UNLIKE");
    }

    private static void dealFull() {
        Edge e = new Edge(14, "deal, 40 DEEDS at most");
        e.each(States::sixAlmostFull, "deal(3) = 40");
        e.each(States::sixFull, "deal(3) = FULL");
        e.each(States::sixFullNoon, "deal(3) = FULL");
        e.goes(States::sixAlmostFull, "deal(3) = 40", "count(4) = 40", "deal(3) = FULL", "count(4) = 40",
            "count(1) = 40",
            "undo(39) = 1", "deal(3) = 40", "deal(3) = FULL");
        Edge ahead = new Edge(14, "deal, a MORNING is ahead of NOON");
        ahead.goes(States::sixNoon, "count(2) = 1", "deal(3) = 2", "count(2) = 0", "noon() = 2", "count(2) = 1");
    }

    private static void noon() {
        Edge e = new Edge(15, "noon");
        e.each(States::bare, "noon() = STATE");
        e.each(States::nobody, "noon() = STATE");
        e.each(States::six, "noon() = 2");
        e.each(States::sixNoon, "noon() = STATE");
        e.each(States::sixAlmostFull, "noon() = 2");
        e.each(States::sixFull, "noon() = FULL");
        e.each(States::one, "noon() = 0");
        Edge order = new Edge(15, "noon, FULL last");
        order.each(States::sixFullNoon, "noon() = STATE");
        Edge more = new Edge(15, "noon, how many KNOW more then");
        more.each(States.town("llllll"), "noon() = 0");
        more.goes(States.town("llllll"), "row 3: 0 1 2 3 0 1", "deal(3) = 1", "noon() = 6", "undo(1) = 1",
            "noon() = 6");
        more.goes(States.town("dddddd"), "row 3: 0 1 2 3 0 1", "deal(3) = 1", "noon() = 1");
        more.goes(States.town("dddddd"), "row 3: 3 0 3 0 3 2", "deal(3) = 1", "noon() = 3");
    }

    private static void sign() {
        Edge e = new Edge(16, "sign");
        e.bounds(States::six, "sign(#, 5)", 0, 4);
        e.bounds(States::six, "sign(0, #)", 1, 5);
        e.outside(States::six, "sign(#, 5)", 5, 6);
        e.outside(States::nobody, "sign(#, 1)", Integer.MIN_VALUE, -1, 0, 1, Integer.MAX_VALUE);
        e.each(States::one, "sign(0, 0) = BAD", "sign(0, 1) = BAD", "sign(1, 0) = BAD");
        for (int p = 0; p < 6; p++) e.each(States::six, "sign(" + p + ", " + p + ") = BAD");
        e.each(States::six, "sign(0, 1) = 2", "sign(1, 0) = 2", "sign(2, 5) = STATE", "sign(5, 2) = STATE");
        e.each(States::sixAlmostFull, "sign(0, 1) = 2", "sign(5, 2) = STATE");
        Edge order = new Edge(16, "sign, FULL last");
        order.each(States::sixFull, "sign(0, 1) = FULL", "sign(2, 5) = STATE", "sign(5, 2) = STATE",
            "sign(0, 0) = BAD", "sign(0, 6) = BAD", "sign(-1, 0) = BAD");
        Edge both = new Edge(16, "sign, known whichever is named first");
        both.goes(States::six, "sign(4, 0) = 2", "sign(0, 4) = STATE", "sign(4, 0) = STATE",
            "person(0, 4) = 1, asked 16",
            "person(4, 4) = 1, asked 1", "tells(0, 4) = 1", "tells(4, 0) = 1");
    }

    private static void signsAll() {
        Edge e = new Edge(16, "sign, between all of six");
        String[] lines = new String[16];
        int count = 0;
        for (int p = 0; p < 6; p++) {
            for (int q = p + 1; q < 6; q++) lines[count++] = "sign(" + q + ", " + p + ") = " + count;
        }
        lines[15] = "sign(0, 5) = STATE";
        e.goes(States.town("mmmmmm"), lines);
    }

    private static void undo() {
        Edge e = new Edge(17, "undo");
        e.bounds(States::six, "undo(#)", 0, 1);
        e.bounds(States::sixFull, "undo(#)", 0, 40);
        e.bounds(States::bare, "undo(#)", 0, 0);
        e.bounds(States::nobody, "undo(#)", 0, 0);
        e.bounds(States::one, "undo(#)", 0, 0);
        e.each(States::six, "undo(0) = 1", "undo(1) = 0", "undo(2) = BAD");
        e.each(States::sixFull, "undo(0) = 40", "undo(1) = 39", "undo(39) = 1", "undo(40) = 0", "undo(41) = BAD");
        e.each(States::bare, "undo(0) = 0", "undo(1) = BAD");
        Edge whole = new Edge(17, "undo, as it was ahead of them");
        whole.goes(States::six, "noon() = 2", "sign(0, 1) = 2", "deal(3) = 2", "undo(3) = 1", "count(1) = 1",
            "count(2) = 1",
            "count(3) = 2", "undo(2) = 1", "count(3) = 1", "count(2) = 1", "undo(1) = 1", "count(2) = 0", "noon() = 2",
            "undo(0) = 2", "count(1) = 0", "person(2, 1) = 1, asked 0", "count(3) = 1", "count(8) = 2");
        whole.goes(States::sixFullNoon, "undo(39) = 1", "count(2) = 0", "count(1) = 39", "noon() = 2", "undo(0) = 40",
            "count(4) = 0", "count(1) = 0", "undo(0) = 0", "on(2) = 3", "count(4) = 3");
    }

    private static void keep() {
        Edge e = new Edge(18, "keep");
        e.bounds(States::six, "keep(#)", 0, 2);
        e.each(States::six, "keep(0) = 1", "keep(1) = 1", "keep(2) = 1");
        e.each(States::sixFull, "keep(0) = 40", "keep(1) = 40");
        e.each(States::one, "keep(2) = 0");
        e.each(States::bare, "keep(0) = STATE", "keep(2) = STATE");
        e.each(States::nobody, "keep(1) = STATE");
        Edge order = new Edge(18, "keep, BAD ahead of STATE");
        order.each(States::bare, "keep(3) = BAD", "keep(-1) = BAD", "keep(MIN) = BAD", "keep(MAX) = BAD");
        Edge kept = new Edge(18, "keep, as it is: what comes later does not change it");
        kept.goes(States::six, "keep(1) = 1", "count(8) = 3", "sign(0, 1) = 2", "noon() = 2", "undo(0) = 3",
            "on(1) = 1",
            "count(3) = 1", "count(1) = 1", "count(2) = 0", "person(1, 1) = 1, asked 2");
        kept.goes(States::six, "row 2: 3 0 0 3 1 1", "undo(0) = 1", "deal(2) = 1", "keep(1) = 1", "undo(0) = 1",
            "deal(3) = 1", "on(1) = 1",
            "person(0, 1) = 1, asked 3", "person(5, 1) = 1, asked 1", "on(0) = 1", "person(0, 1) = 1, asked 1",
            "person(5, 1) = 1, asked 2");
        kept.goes(States::six, "noon() = 2", "keep(2) = 2", "undo(0) = 2", "keep(0) = 0", "on(2) = 2", "count(3) = 1",
            "count(2) = 1", "on(0) = 0", "count(1) = 0", "count(8) = 2");
    }

    private static void on() {
        Edge e = new Edge(19, "on");
        e.bounds(States::six, "on(#)", 0, 2);
        e.each(States::six, "on(0) = 1", "on(1) = NOTHING", "on(2) = 3");
        e.each(States::sixFull, "on(0) = 1", "on(1) = NOTHING", "on(2) = 3", "on(3) = BAD");
        e.each(States::bare, "on(0) = NOTHING", "on(2) = NOTHING", "on(3) = BAD", "on(-1) = BAD");
        e.each(States::one, "on(0) = NOTHING");
        Edge whole = new Edge(19, "on, as it was kept, as often as wanted");
        whole.goes(States::sixFull, "keep(1) = 40", "on(2) = 3", "count(4) = 3", "count(3) = 2", "count(2) = 1",
            "count(1) = 1",
            "undo(0) = 3", "on(2) = 3", "count(3) = 2", "deal(3) = 2", "on(1) = 40", "count(1) = 40", "count(3) = 1",
            "deal(3) = FULL", "noon() = FULL", "on(0) = 1", "count(8) = 3", "count(4) = 1");
    }
}
