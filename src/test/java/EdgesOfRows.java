/** Promises 2 to 9. */
final class EdgesOfRows {
    private EdgesOfRows() {
    }

    static void run() {
        row();
        lay();
        at();
        tear();
        copyNumbers();
        copyOrder();
        copyPlaces();
        copyOverlaps();
        mean();
        text();
        put();
    }

    private static void row() {
        Edge e = new Edge(2, "row");
        e.bounds(States::six, "row(#, 1)", 0, 5);
        for (int n = 0; n <= 40; n++) e.each(States::six, "row(2, " + n + ") = " + n);
        e.each(States::six,
            "row(0, 41) = BAD", "row(0, MAX) = BAD", "row(2, 41) = BAD",
            "row(0, -1) = SIZE", "row(0, MIN) = SIZE", "row(2, -1) = SIZE");
        Edge order = new Edge(2, "row, BAD ahead of SIZE");
        order.each(States::bare, "row(6, -1) = BAD", "row(-1, -1) = BAD", "row(MIN, MIN) = BAD", "row(6, 41) = BAD");
        Edge anew = new Edge(2, "row, ints 0 and no more than told");
        anew.goes(States::bare,
            "row(5, 40) = 40", "at(5, 0) = 1, asked 0", "at(5, 39) = 1, asked 0", "at(5, 40) = BEYOND",
            "lay(5, 0, 7) = 1", "lay(5, 39, 8) = 1", "row(5, 0) = 0", "at(5, 0) = BEYOND",
            "row(5, 1) = 1", "at(5, 0) = 1, asked 0", "at(5, 1) = BEYOND",
            "row(5, 40) = 40", "at(5, 39) = 1, asked 0", "count(6) = 1");
        anew.goes(States::six, "row(0, 39) = 39", "at(0, 38) = 1, asked 0", "at(0, 39) = BEYOND", "count(6) = 4");
    }

    private static void lay() {
        Edge e = new Edge(3, "lay");
        e.bounds(States::six, "lay(#, 0, 1)", 0, 5);
        e.each(States::six,
            "lay(0, 0, 9) = 1, asked -77", "lay(0, 39, 9) = 1, asked 39000040",
            "lay(0, 40, 9) = BEYOND", "lay(0, -1, 9) = BEYOND", "lay(0, MIN, 9) = BEYOND", "lay(0, MAX, 9) = BEYOND",
            "lay(3, 5, 9) = 1, asked 2", "lay(3, 6, 9) = BEYOND",
            "lay(1, 0, 9) = BEYOND", "lay(1, -1, 9) = BEYOND",
            "lay(2, 0, 9) = NOTHING", "lay(5, 0, 9) = NOTHING");
        Edge order = new Edge(3, "lay, BAD ahead of NOTHING ahead of BEYOND");
        order.each(States::six, "lay(6, 40, 1) = BAD", "lay(2, -1, 1) = NOTHING", "lay(2, MAX, 1) = NOTHING");
        Edge any = new Edge(3, "lay, any int");
        any.goes(States::bare, "row(0, 1) = 1",
            "lay(0, 0, MIN) = 1, asked 0", "lay(0, 0, MAX) = 1, asked MIN", "lay(0, 0, -1) = 1, asked MAX",
            "at(0, 0) = 1, asked -1");
    }

    private static void at() {
        Edge e = new Edge(4, "at");
        e.bounds(States::six, "at(#, 0)", 0, 5);
        e.each(States::six,
            "at(0, 0) = 1, asked -77", "at(0, 39) = 1, asked 39000040",
            "at(0, 40) = BEYOND", "at(0, -1) = BEYOND", "at(0, MIN) = BEYOND", "at(0, MAX) = BEYOND",
            "at(3, 5) = 1, asked 2", "at(3, 6) = BEYOND",
            "at(1, 0) = BEYOND", "at(1, -1) = BEYOND", "at(2, 0) = NOTHING");
        Edge order = new Edge(4, "at, BAD ahead of NOTHING ahead of BEYOND");
        order.each(States::six, "at(6, 40) = BAD", "at(-1, -1) = BAD", "at(2, -1) = NOTHING", "at(5, MAX) = NOTHING");
    }

    private static void tear() {
        Edge e = new Edge(5, "tear");
        e.bounds(States::six, "tear(#)", 0, 5);
        e.each(States::six, "tear(0) = 1", "tear(1) = 1", "tear(2) = NOTHING", "tear(5) = NOTHING");
        e.goes(States::six, "tear(1) = 1", "tear(1) = NOTHING", "at(1, 0) = NOTHING", "count(6) = 3",
            "tear(0) = 1", "at(0, 0) = NOTHING", "row(0, 40) = 40", "at(0, 39) = 1, asked 0", "count(6) = 3");
    }

    private static void copyNumbers() {
        Edge e = new Edge(6, "copy");
        e.bounds(States::six, "copy(#, 0, 0, 0, 0)", 0, 5);
        e.bounds(States::six, "copy(0, 0, #, 0, 0)", 0, 5);
        e.each(States::six,
            "copy(0, 0, 0, 0, -1) = SIZE", "copy(0, 0, 0, 0, MIN) = SIZE",
            "copy(0, 0, 0, 0, 0) = 1", "copy(0, 0, 0, 0, 40) = 1", "copy(0, 0, 0, 0, 41) = BEYOND",
            "copy(0, 0, 0, 0, MAX) = BEYOND", "copy(0, MAX, 0, MAX, MAX) = BEYOND",
            "copy(0, MIN, 0, MIN, MAX) = BEYOND",
            "copy(2, 0, 0, 0, 1) = NOTHING", "copy(0, 0, 2, 0, 1) = NOTHING", "copy(2, 0, 2, 0, 0) = NOTHING",
            "copy(2, 0, 5, 0, 0) = NOTHING");
    }

    private static void copyOrder() {
        Edge e = new Edge(6, "copy, BAD ahead of SIZE ahead of NOTHING ahead of BEYOND");
        e.each(States::six,
            "copy(6, 0, 0, 0, -1) = BAD", "copy(0, 0, 6, 0, -1) = BAD", "copy(2, 0, -1, 0, 0) = BAD",
            "copy(-1, 0, 2, 0, 0) = BAD", "copy(6, 41, 0, 41, 1) = BAD",
            "copy(2, 0, 0, 0, -1) = SIZE", "copy(0, 0, 2, 0, MIN) = SIZE", "copy(0, 41, 0, -1, -1) = SIZE",
            "copy(2, 0, 0, 41, 1) = NOTHING", "copy(0, -1, 2, 0, 1) = NOTHING", "copy(2, MIN, 2, MAX, MAX) = NOTHING");
    }

    private static void copyPlaces() {
        Edge e = new Edge(6, "copy, BEYOND: not so many there");
        e.each(States::six,
            "copy(0, 39, 3, 5, 1) = 1", "copy(0, 40, 3, 5, 1) = BEYOND", "copy(0, 39, 3, 6, 1) = BEYOND",
            "copy(0, -1, 3, 0, 1) = BEYOND", "copy(0, 0, 3, -1, 1) = BEYOND",
            "copy(0, MIN, 3, 0, 1) = BEYOND", "copy(0, 0, 3, MIN, 1) = BEYOND",
            "copy(0, MAX, 3, 0, 1) = BEYOND", "copy(0, 0, 3, MAX, 1) = BEYOND",
            "copy(0, 34, 3, 0, 6) = 1", "copy(0, 35, 3, 0, 6) = BEYOND", "copy(0, 0, 3, 0, 7) = BEYOND",
            "copy(3, 0, 0, 34, 6) = 1", "copy(3, 0, 0, 35, 6) = BEYOND", "copy(3, 0, 0, 0, 7) = BEYOND",
            "copy(1, 0, 0, 0, 1) = BEYOND", "copy(0, 0, 1, 0, 1) = BEYOND");
        Edge none = new Edge(6, "copy of no places");
        none.each(States::six,
            "copy(0, 40, 3, 6, 0) = 1", "copy(1, 0, 1, 0, 0) = 1", "copy(0, 0, 1, 0, 0) = 1",
            "copy(0, 41, 3, 0, 0) = BEYOND", "copy(0, 0, 3, 7, 0) = BEYOND", "copy(1, 1, 0, 0, 0) = BEYOND",
            "copy(0, -1, 3, 0, 0) = BEYOND", "copy(0, 0, 3, -1, 0) = BEYOND");
        Edge only = new Edge(6, "copy, only the places told");
        only.goes(States::bare, "row 0: 1 2 3 4", "row 1: 5 6 7 8", "copy(0, 1, 1, 2, 2) = 1",
            "at(1, 0) = 1, asked 5", "at(1, 1) = 1, asked 6", "at(1, 2) = 1, asked 2", "at(1, 3) = 1, asked 3",
            "at(0, 1) = 1, asked 2", "at(0, 2) = 1, asked 3", "copy(0, 0, 1, 0, 0) = 1", "at(1, 0) = 1, asked 5");
    }

    private static void copyOverlaps() {
        Edge e = new Edge(6, "copy, as if taken ahead");
        copied(e, 0, 1, 39);
        copied(e, 1, 0, 39);
        copied(e, 0, 20, 20);
        copied(e, 20, 0, 20);
        copied(e, 3, 10, 25);
        copied(e, 10, 3, 25);
    }

    private static void copied(Edge e, int i, int j, int n) {
        String[] lines = new String[41];
        lines[0] = "copy(0, " + i + ", 0, " + j + ", " + n + ") = 1";
        for (int k = 0; k < 40; k++) {
            int from = k >= j && k < j + n ? k - j + i : k;
            lines[k + 1] = "at(0, " + k + ") = 1, asked " + (from * 1000003 - 77);
        }
        e.goes(States::six, lines);
    }

    private static void mean() {
        Edge e = new Edge(7, "mean");
        e.bounds(States::six, "mean(#)", 0, 5);
        e.each(States::six, "mean(1) = NOUGHT", "mean(2) = NOTHING", "mean(0) = 1, asked 19499981",
            "mean(3) = 1, asked 1");
        Edge cut = new Edge(7, "mean, cut");
        cut.goes(States::bare, "row 0: 1 0", "mean(0) = 1, asked 0", "row 0: -1 0", "mean(0) = 1, asked 0",
            "row 0: -3 -4", "mean(0) = 1, asked -3", "row 0: 3 4", "mean(0) = 1, asked 3",
            "row 0: -2", "mean(0) = 1, asked -2", "row 0: 1 1 0", "mean(0) = 1, asked 0",
            "row 0: MIN", "mean(0) = 1, asked MIN", "row 0: MAX", "mean(0) = 1, asked MAX",
            "row 0: MIN MAX", "mean(0) = 1, asked 0", "row 0: MIN MIN MAX", "mean(0) = 1, asked -715827883");
        cut.goes(States::bare, "row 0:" + " MAX".repeat(40), "mean(0) = 1, asked MAX",
            "row 1:" + " MIN".repeat(40), "mean(1) = 1, asked MIN",
            "lay(1, 39, -1) = 1", "mean(1) = 1, asked -2093796556");
    }

    private static void text() {
        Edge e = new Edge(8, "text");
        e.bounds(States::six, "text(#, 1)", 0, 3);
        for (int n = 0; n <= 60; n++) e.each(States::six, "text(3, " + n + ") = " + n);
        e.each(States::six,
            "text(0, 61) = BAD", "text(0, MAX) = BAD", "text(3, 61) = BAD",
            "text(0, -1) = SIZE", "text(0, MIN) = SIZE", "text(3, -1) = SIZE");
        Edge order = new Edge(8, "text, BAD ahead of SIZE");
        order.each(States::bare, "text(4, -1) = BAD", "text(-1, -1) = BAD", "text(MIN, MIN) = BAD",
            "text(4, 61) = BAD");
        Edge anew = new Edge(8, "text, blanks and no more than told");
        anew.goes(States::bare,
            "text(3, 60) = 60", "put(3, 0, 1) = 1032", "put(3, 59, 1) = 1032", "put(3, 60, 1) = BEYOND",
            "text(3, 0) = 0", "put(3, 0, 1) = BEYOND", "text(3, 1) = 1", "put(3, 0, 1) = 1032", "put(3, 1, 1) = BEYOND",
            "text(3, 60) = 60", "put(3, 0, 1) = 1032", "put(3, 59, 1) = 1032", "count(7) = 1");
    }

    private static void put() {
        Edge e = new Edge(9, "put");
        e.bounds(States::six, "put(#, 0, 1)", 0, 3);
        e.each(States::six,
            "put(1, 0, 5) = 872", "put(1, 59, 5) = 990",
            "put(1, 60, 5) = BEYOND", "put(1, -1, 5) = BEYOND", "put(1, MIN, 5) = BEYOND", "put(1, MAX, 5) = BEYOND",
            "put(0, 13, 5) = 1053", "put(0, 14, 5) = BEYOND",
            "put(2, 0, 5) = BEYOND", "put(2, -1, 5) = BEYOND", "put(3, 0, 5) = NOTHING");
        Edge order = new Edge(9, "put, BAD ahead of NOTHING ahead of BEYOND");
        order.each(States::six, "put(4, 60, 1) = BAD", "put(-1, -1, 1) = BAD", "put(3, -1, 1) = NOTHING",
            "put(3, MAX, 1) = NOTHING");
        Edge cut = new Edge(9, "put, cut to a byte");
        cut.goes(States::bare, "text(0, 1) = 1", "put(0, 0, 127) = 1032", "put(0, 0, 128) = 1127",
            "put(0, 0, 255) = 872",
            "put(0, 0, 256) = 999", "put(0, 0, -128) = 1000", "put(0, 0, -129) = 872", "put(0, 0, -1) = 1127",
            "put(0, 0, MAX) = 999", "put(0, 0, MIN) = 999", "put(0, 0, 257) = 1000", "put(0, 0, 0) = 1001");
    }
}
