/** Promises 1 and 35 to 41. */
final class EdgesOfTold {
    private static final int MIN = Integer.MIN_VALUE, MAX = Integer.MAX_VALUE;

    private EdgesOfTold() {
    }

    static void run() {
        anew();
        asked();
        askedStays();
        fractions();
        fractionsStay();
        count();
        countMost();
        finding();
        findings();
        digest();
        digestWraps();
        manyCalls();
    }

    private static void anew() {
        Edge e = new Edge(1, "a new object");
        for (int what = 0; what < 9; what++) e.each(States::bare, "count(" + what + ") = 0");
        for (int r = 0; r < 6; r++) e.each(States::bare, "at(" + r + ", 0) = NOTHING", "tear(" + r + ") = NOTHING");
        for (int t = 0; t < 4; t++) e.each(States::bare, "put(" + t + ", 0, 1) = NOTHING", "town(" + t + ") = NOTHING");
        for (int k = 0; k < 3; k++) e.each(States::bare, "on(" + k + ") = NOTHING");
        e.each(States::bare, "person(0, 0) = BAD", "reach(0) = BAD", "crew() = STATE", "noon() = STATE", "undo(0) = 0");
        e.goes(States::bare, "asked() = 0", "upper() = 0", "lower() = 1", "finding() = 0",
            "findings(1) = 0", "findings(2) = 0", "findings(3) = 0", "findings(4) = 0", "findings(5) = 0");
        Edge own = new Edge(1, "an object of its own");
        TonguesDealt other = States.sixFull();
        own.goes(States::bare, "count(0) = 0", "at(0, 0) = NOTHING", "on(0) = NOTHING", "fault(0) = NOTHING");
        own.due("the other's persons", other.count(0), 6);
    }

    private static void asked() {
        Edge e = new Edge(35, "asked, what each of these told");
        e.goes(States::six, "asked() = 6999944", "lay(0, 0, 5) = 1", "asked() = -77", "at(0, 0) = 1", "asked() = 5",
            "mean(3) = 1", "asked() = 1",
            "person(5, 0) = 1", "asked() = 5", "needs(0, 5) = 8", "asked() = 1", "crew() = 3", "asked() = 42",
            "crier() = 0", "asked() = 4",
            "signs(0, 5) = 1", "asked() = 1", "houses(4) = 1", "asked() = 9");
        e.goes(States::two, "lay(3, 0, MIN) = 1", "at(3, 0) = 1", "asked() = MIN", "lay(3, 0, MAX) = 1",
            "asked() = MIN", "at(3, 0) = 1", "asked() = MAX",
            "signs(0, 1) = NONE", "asked() = 0");
        Edge before = new Edge(35, "asked, 0 before");
        before.goes(States::bare, "asked() = 0", "row(0, 40) = 40", "at(0, 40) = BEYOND", "mean(1) = NOTHING",
            "crew() = STATE", "asked() = 0");
    }

    private static void askedStays() {
        Edge e = new Edge(35, "asked, refused ones and others tell nothing");
        e.goes(States::six, "lay(0, 40, 1) = BEYOND", "at(2, 0) = NOTHING", "mean(1) = NOUGHT", "person(6, 0) = BAD",
            "needs(0, 0) = BAD",
            "signs(0, 6) = BAD", "houses(0) = SIZE", "houses(2) = NOTHING", "asked() = 6999944",
            "mark(5, 5) = 2", "tells(0, 3) = 1", "order(0, 5, 2) = 1", "reach(0) = 47", "odds(0, 1, 0) = 1",
            "part(0, 5, 3) = 1",
            "rule(4, 0) = 0", "broken(4) = NONE", "shouted(9) = 2", "calls(1) = 1", "count(4) = 1",
            "put(1, 0, 1) = 872", "asked() = 6999944",
            "copy(0, 0, 0, 1, 1) = 1", "tear(0) = 1", "text(0, 3) = 3", "noon() = 2", "sign(0, 1) = 2", "undo(1) = 2",
            "keep(1) = 1", "on(0) = 1",
            "deal(3) = 2", "lots(1, 1) = 1", "fault(0) = 3", "asked() = 6999944", "text 0: p", "town(0) = 1",
            "asked() = 6999944");
    }

    private static void fractions() {
        Edge e = new Edge(36, "upper, 0 before, and what was told last");
        e.goes(States::bare, "upper() = 0", "odds(0, 1, 0) = BAD", "calls(0) = STATE", "upper() = 0");
        e.goes(States::six, "upper() = 83", "calls(1) = 1", "upper() = 1024", "odds(0, 4, 0) = 1", "upper() = 0",
            "part(0, 5, 3) = 1", "upper() = 1");
        e.goes(States.town("pppppp"), "upper() = 4096");
        Edge lower = new Edge(37, "lower, 1 before, and what was told last");
        lower.goes(States::bare, "lower() = 1", "part(0, 1, 2) = BAD", "lower() = 1");
        lower.goes(States::six, "lower() = 128", "calls(1) = 1", "lower() = 1", "odds(0, 1, 2) = 1", "lower() = 128",
            "odds(0, 4, 0) = 1", "lower() = 1",
            "part(2, 0, 5) = 1", "lower() = 2", "part(0, 5, 1) = 1", "lower() = 1");
    }

    private static void fractionsStay() {
        Edge upper = new Edge(36, "upper, refused ones and others tell nothing");
        upper.goes(States::six, "odds(0, 1, 5) = BAD", "odds(0, 0, 0) = BAD", "part(0, 5, 0) = BAD",
            "part(0, 4, 1) = STATE", "part(0, 3, 1) = STATE",
            "calls(0) = SIZE", "calls(2) = NOTHING", "calls(6) = BAD", "upper() = 83", "crew() = 3",
            "signs(0, 5) = 1", "mean(3) = 1", "upper() = 83",
            "noon() = 2", "lots(2, 1) = 2", "town(0) = 6", "upper() = 83");
        Edge lower = new Edge(37, "lower, refused ones and others tell nothing");
        lower.goes(States::six, "odds(0, 1, -1) = BAD", "part(0, 5, 6) = BAD", "part(0, 4, 1) = STATE",
            "calls(3) = SIZE", "calls(5) = NOTHING",
            "lower() = 128", "needs(0, 5) = 8", "undo(0) = 1", "town(0) = 6", "lower() = 128");
    }

    private static void count() {
        Edge e = new Edge(38, "count");
        e.bounds(States::six, "count(#)", 0, 8);
        e.bounds(States::bare, "count(#)", 0, 8);
        int[] six = {6, 1, 0, 1, 1, 2, 4, 3, 2};
        int[] full = {6, 39, 1, 1, 40, 2, 4, 3, 2};
        int[] nobody = {0, 0, 0, 0, 0, 0, 4, 3, 0};
        for (int what = 0; what < 9; what++) {
            e.each(States::six, "count(" + what + ") = " + six[what]);
            e.each(States::sixFullNoon, "count(" + what + ") = " + full[what]);
            e.each(States::nobody, "count(" + what + ") = " + nobody[what]);
        }
    }

    private static void countMost() {
        Edge e = new Edge(38, "count, the most that there may be");
        e.goes(States.town("dldldl g01g02g03g04g05g12g13g14g15g23g24g25g34g35g45"), "count(0) = 6", "count(3) = 15",
            "count(5) = 6",
            "row(2, 0) = 0", "row(5, 0) = 0", "count(6) = 6", "text(3, 0) = 0", "count(7) = 4",
            "keep(0) = 0", "keep(1) = 0", "keep(2) = 0", "count(8) = 3", "keep(2) = 0", "count(8) = 3",
            "lots(20, 1) = 20", "lots(20, 1) = 20", "count(1) = 40", "count(4) = 40", "undo(0) = 40", "count(1) = 0",
            "count(3) = 15");
        e.goes(States::sixFull, "count(1) = 40", "count(4) = 40");
    }

    private static void finding() {
        Edge e = new Edge(39, "finding, 0 before any, then the latest");
        e.goes(States::bare, "finding() = 0", "row(6, 0) = BAD", "row(0, 41) = BAD", "crew() = STATE", "finding() = 0",
            "tear(0) = NOTHING", "finding() = 1", "row(0, 0) = 0", "at(0, 0) = BEYOND", "finding() = 2",
            "mean(0) = NOUGHT", "finding() = 4",
            "row(0, -1) = SIZE", "finding() = 5", "text 0: p", "town(0) = 1", "mark(0, 1) = UNLIKE", "finding() = 3",
            "mark(0, 0) = BAD", "reach(0) = 1", "finding() = 3", "on(0) = NOTHING", "finding() = 1", "town(0) = 1",
            "finding() = 1");
        e.goes(States::sixFull, "finding() = 4", "deal(3) = FULL", "noon() = FULL", "finding() = 4",
            "order(0, 4, 1) = NONE", "finding() = 4");
    }

    private static void findings() {
        Edge e = new Edge(40, "findings");
        e.bounds(States::six, "findings(#)", 1, 5);
        e.bounds(States::bare, "findings(#)", 1, 5);
        e.outside(States::six, "findings(#)", MIN, -3, -1, 0, 6, MAX);
        e.each(States::six, "findings(1) = 0", "findings(4) = 1", "findings(5) = 0");
        e.goes(States::bare, "tear(0) = NOTHING", "put(0, 0, 0) = NOTHING", "on(0) = NOTHING", "row(0, 0) = 0",
            "at(0, 0) = BEYOND", "at(0, 0) = BEYOND",
            "mean(0) = NOUGHT", "text(0, -1) = SIZE", "row(7, -1) = BAD", "keep(0) = STATE", "findings(1) = 3",
            "findings(2) = 2", "findings(3) = 0",
            "findings(4) = 1", "findings(5) = 1");
    }

    private static long mix(long h, long... values) {
        for (long v : values) h = 31 * h + v;
        return h;
    }

    private static void digest() {
        Edge e = new Edge(41, "digest of a new object, and of what is there but empty");
        long missing = mix(17, 0, 0, 0, 0, 0, 0, 0, 0, 0, -1, -1, -1, -1, -1, -1, -1, -1, -1, -1, -1, -1, -1);
        e.due("digest() anew", States.bare().digest(), missing);
        TonguesDealt x = new TonguesDealt();
        for (int r = 0; r < 6; r++) x.row(r, 0);
        for (int t = 0; t < 4; t++) x.text(t, 0);
        long empty = mix(17, 0, 0, 0, 0, 0, 0, 6, 4, 0, -1, -1, -1, 0, 0, 0, 0, 0, 0, 0, 0, 0, 0);
        e.due("digest() of empty ones", x.digest(), empty);
        for (int r = 0; r < 6; r++) x.tear(r);
        long torn = mix(17, 0, 0, 0, 0, 0, 0, 0, 4, 0, -1, -1, -1, -1, -1, -1, -1, -1, -1, 0, 0, 0, 0);
        e.due("digest() of torn ones", x.digest(), torn);
        Edge told = new Edge(41, "digest, what was told and found is none of it");
        told.goes(States::six, "crew() = 3", "odds(0, 4, 0) = 1");
        TonguesDealt y = States.six();
        long before = y.digest();
        y.crew();
        y.odds(0, 4, 0);
        y.at(2, 0);
        y.mean(1);
        told.due("digest() behind telling and finding", y.digest(), before);
    }

    /** All that there may be, with the least and the largest numbers: the sum wraps around. */
    private static void digestWraps() {
        Edge e = new Edge(41, "digest, wrapping around");
        TonguesDealt x = new TonguesDealt();
        Check.write(x, 0, "dp a01 g10");
        x.town(0);
        x.row(0, 2);
        x.lay(0, 0, 3);
        x.lay(0, 1, 3);
        x.deal(0);
        x.keep(0);
        x.noon();
        x.keep(2);
        long h = mix(17, 2, 1, 1, 1, 2, 1, 6, 4, 2);
        h = mix(h, 3, 3, 9, 3, 2, 0, 3, 8, 3, 1, 1, -1, 2);
        for (int r = 0; r < 6; r++) {
            x.row(r, 40);
            h = mix(h, 40);
            for (int i = 0; i < 40; i++) {
                int v = i % 2 == r % 2 ? MIN + i : MAX - r;
                x.lay(r, i, v);
                h = mix(h, v);
            }
        }
        for (int t = 0; t < 4; t++) {
            x.text(t, 30);
            h = mix(h, 30);
            for (int i = 0; i < 30; i++) {
                x.put(t, i, 40 * i + t);
                h = mix(h, (byte) (40 * i + t));
            }
        }
        e.due("digest() of all that there may be", x.digest(), h);
    }

    /** All of the 512 calls that are promised but the last one find the same. */
    private static void manyCalls() {
        Edge e = new Edge(40, "findings, by all of 512 calls");
        manyFind(e, 1, "on(0)");
        manyFind(e, 2, "at(0, 0)", "row(0, 0)");
        manyFind(e, 3, "mark(0, 1)", "text(0, 1)", "put(0, 0, 112)", "town(0)");
        manyFind(e, 4, "mean(0)", "row(0, 0)");
        manyFind(e, 5, "row(1, -1)");
        Edge undo = new Edge(17, "undo, again and again");
        TonguesDealt x = States.two();
        for (int time = 0; time < 150; time++) {
            x.noon();
            undo.due("undo(0), time " + time, x.undo(0), 1);
        }
    }

    private static void manyFind(Edge e, int finding, String call, String... ahead) {
        TonguesDealt x = new TonguesDealt();
        for (String a : ahead) e.answer(x, a);
        int times = 511 - ahead.length;
        for (int time = 0; time < times; time++) e.due(call + ", time " + time, e.answer(x, call), Check.FINDING);
        e.due("findings(" + finding + ")", x.findings(finding), times);
    }
}
