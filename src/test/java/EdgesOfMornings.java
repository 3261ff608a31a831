/** Promises 29 to 31. */
final class EdgesOfMornings {
    private static final String[] CALLS = {"houses(#)", "rule(#, 0)", "rule(#, 3)", "broken(#)"};

    private EdgesOfMornings() {
    }

    static void run() {
        numbers();
        order();
        sizes();
        tongues();
        houses();
        rule();
        ruleEnds();
        broken();
    }

    private static Edge about(String call, String what) {
        int promise = call.startsWith("houses") ? 29 : call.startsWith("rule") ? 30 : 31;
        return new Edge(promise, call.substring(0, call.indexOf('(')) + what);
    }

    /** ROW 2 written in a town. */
    private static Edge.State mornings(String town, int... places) {
        return () -> {
            TonguesDealt x = States.town(town).made();
            Check.layRow(x, 2, places);
            x.at(0, 7);
            return x;
        };
    }

    private static String of(String call, int r, String due) {
        return call.replace("#", Integer.toString(r)) + " = " + due;
    }

    private static void numbers() {
        for (String call : CALLS) {
            Edge e = about(call, "");
            e.bounds(States::six, call, 0, 5);
            e.each(States::six, of(call, 2, "NOTHING"), of(call, 5, "NOTHING"), of(call, 0, "SIZE"));
        }
        Edge rule = new Edge(30, "rule");
        rule.bounds(States::six, "rule(4, #)", 0, 3);
        rule.bounds(States::nobody, "rule(4, #)", 0, 3);
    }

    private static void order() {
        for (String call : CALLS) {
            Edge e = about(call, ", BAD, STATE, NOTHING, SIZE, UNLIKE in this order");
            e.each(States::bare, of(call, 6, "BAD"), of(call, -1, "BAD"), of(call, 0, "STATE"), of(call, 5, "STATE"));
            e.each(States::nobody, of(call, 6, "BAD"), of(call, 2, "STATE"), of(call, 0, "STATE"), of(call, 1, "STATE"));
            e.each(mornings("pp", 9, 9, 9), of(call, 2, "SIZE"));
            e.each(mornings("pp", 9, 9), of(call, 2, "UNLIKE"));
        }
        Edge rule = new Edge(30, "rule, BAD ahead of all");
        rule.each(States::nobody, "rule(0, 4) = BAD", "rule(2, -1) = BAD", "rule(6, 4) = BAD");
        rule.each(States::six, "rule(2, 4) = BAD", "rule(0, 4) = BAD", "rule(0, MIN) = BAD", "rule(6, 0) = BAD");
    }

    /** Of each size of a ROW and each number of PERSONS: whether it is so many times as many. */
    private static void sizes() {
        for (String call : CALLS) {
            Edge e = about(call, ", SIZE: so many times as many TONGUES as PERSONS");
            for (int persons = 1; persons <= 6; persons++) {
                for (int size = 0; size <= 40; size++) {
                    TonguesDealt x = mornings("pppppp".substring(0, persons), new int[size]).made();
                    int before = x.findings(Check.SIZE);
                    int got = answer(x, call);
                    boolean fits = size % persons == 0;
                    String what = call + " of " + size + " places for " + persons;
                    e.due("refusal of " + what, got == Check.FINDING ? 1 : 0, fits ? 0 : 1);
                    e.due("SIZE of " + what, x.findings(Check.SIZE) - before, fits ? 0 : 1);
                }
            }
        }
    }

    private static int answer(TonguesDealt x, String call) {
        if (call.startsWith("houses")) return x.houses(2);
        return call.startsWith("rule") ? x.rule(2, call.charAt(8) - '0') : x.broken(2);
    }

    private static void tongues() {
        for (String call : CALLS) {
            Edge e = about(call, ", UNLIKE: no TONGUE, at any place");
            for (int i = 0; i < 40; i++) {
                int[] places = new int[40];
                for (int v : new int[] {-1, 4, Integer.MIN_VALUE, Integer.MAX_VALUE}) {
                    places[i] = v;
                    if (i % 13 == 0 || v == 4) e.each(mornings("pppp a01", places), of(call, 2, "UNLIKE"));
                }
            }
            e.each(mornings("pp a01", 1, 0, 4, 4), of(call, 2, "UNLIKE"));
        }
    }

    private static void houses() {
        Edge e = new Edge(29, "houses, no morning, one, and as many as there may be");
        e.each(mornings("pppppp"), "houses(2) = 15, asked 63");
        e.each(mornings("p"), "houses(2) = 0, asked 0");
        e.each(mornings("pp"), "houses(2) = 1, asked 3");
        e.each(mornings("pppppp", 3, 3, 3, 3, 3, 3), "houses(2) = 15, asked 63");
        e.each(mornings("pppppp", 0, 1, 2, 3, 0, 1), "houses(2) = 2, asked 51");
        e.each(mornings("p", 3), "houses(2) = 0, asked 0");
        e.each(mornings("p", new int[40]), "houses(2) = 0, asked 0");
        int[] last = new int[40];
        last[39] = 1;
        e.each(mornings("pp", new int[40]), "houses(2) = 1, asked 3");
        e.each(mornings("pp", last), "houses(2) = 0, asked 0");
        e.each(mornings("pppp", last), "houses(2) = 3, asked 7");
        e.each(mornings("ppppp", last), "houses(2) = 6, asked 15");
        int[] first = new int[36];
        first[0] = 1;
        e.each(mornings("pppppp", first), "houses(2) = 10, asked 62");
        Edge told = new Edge(29, "houses, whatever the TOWN's own are");
        told.each(mornings("ppp a01", 0, 1, 1), "houses(2) = 1, asked 6");
    }

    private static void rule() {
        Edge e = new Edge(30, "rule, no morning and one: each RULE");
        for (int which = 0; which < 4; which++) {
            e.each(mornings("pppppp"), "rule(2, " + which + ") = 63");
            e.each(mornings("p"), "rule(2, " + which + ") = 1");
            e.each(mornings("pppppp", 0, 1, 2, 3, 0, 1), "rule(2, " + which + ") = 63");
        }
        Edge two = new Edge(30, "rule, two mornings, behind 3: 0");
        // from 3 to 0, 1, 2, 3; from 0 to 3, 1
        Edge.State turns = mornings("pppppp", 3, 3, 3, 3, 0, 0, 0, 1, 2, 3, 3, 1);
        two.each(turns, "rule(2, 0) = 8", "rule(2, 1) = 33", "rule(2, 2) = 55", "rule(2, 3) = 55");
    }

    private static int[] oneEach(String tongues) {
        int[] places = new int[tongues.length()];
        for (int i = 0; i < places.length; i++) places[i] = tongues.charAt(i) - '0';
        return places;
    }

    /** One PERSON's TONGUES, and by which RULES they go. */
    private static void alone(String tongues, int stays, int turns, int never, int none) {
        Edge e = new Edge(30, "rule of " + tongues);
        e.each(mornings("p", oneEach(tongues)), "rule(2, 0) = " + stays, "rule(2, 1) = " + turns,
            "rule(2, 2) = " + never, "rule(2, 3) = " + none);
    }

    private static void ruleEnds() {
        alone("0123", 0, 1, 1, 1);
        alone("01230", 0, 1, 1, 0);
        alone("3012", 0, 1, 1, 1);
        alone("3210", 0, 0, 1, 1);
        alone("0101", 0, 0, 1, 0);
        alone("020", 0, 0, 1, 0);
        alone("00", 1, 0, 0, 0);
        alone("001", 0, 0, 0, 0);
        alone("011", 0, 0, 0, 0);
        alone("013", 0, 0, 1, 1);
        alone("2".repeat(40), 1, 0, 0, 0);
        alone("2".repeat(39) + "3", 0, 0, 0, 0);
        alone("0123".repeat(10), 0, 1, 1, 0);
        alone("0123".repeat(9) + "0122", 0, 0, 0, 0);
        alone("0123".repeat(9) + "0121", 0, 0, 1, 0);
    }

    private static void broken() {
        Edge e = new Edge(31, "broken, NONE, the first and the last morning");
        e.each(mornings("ppp a02"), "broken(2) = NONE");
        e.each(mornings("ppp a02", 1, 0, 1), "broken(2) = NONE");
        e.each(mornings("ppp a02", 1, 1, 0), "broken(2) = 0");
        e.each(mornings("ppp a02", 1, 1, 0, 1, 1, 0), "broken(2) = 0");
        e.each(mornings("ppp a02", 1, 0, 1, 1, 1, 0), "broken(2) = 1");
        e.each(mornings("ppp", 1, 2, 3), "broken(2) = NONE");
        e.each(mornings("p", 1, 2, 3), "broken(2) = NONE");
        int[] last = new int[40];
        last[39] = 1;
        e.each(mornings("pp a01", new int[40]), "broken(2) = NONE");
        e.each(mornings("pp a01", last), "broken(2) = 19");
        e.each(mornings("pppp a03", last), "broken(2) = 9");
        e.each(mornings("pppp a02", last), "broken(2) = NONE");
        Edge common = new Edge(31, "broken, HOUSES that have one in common");
        common.each(mornings("pppp a03 a31", 1, 1, 0, 1, 1, 0, 0, 1), "broken(2) = 1");
        common.each(mornings("pppp a03 a12", 1, 0, 0, 1, 2, 3, 3, 2), "broken(2) = NONE");
    }
}
