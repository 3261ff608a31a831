/** Promises 10 to 13. */
final class EdgesOfTowns {
    private EdgesOfTowns() {
    }

    static void run() {
        fault();
        everyByte();
        persons();
        ties();
        toldAlready();
        endsAndBlanks();
        town();
        townAnew();
        person();
        roundTheEnds();
        mark();
        markedRound();
    }

    private static void fault() {
        Edge e = new Edge(10, "fault");
        e.bounds(States::six, "fault(#)", 0, 3);
        e.each(States::six, "fault(0) = NONE", "fault(1) = 0", "fault(2) = 0", "fault(3) = NOTHING");
        e.each(States::bare, "fault(0) = NOTHING", "fault(4) = BAD");
    }

    private static void faultOf(Edge e, String text, String due) {
        e.goes(States::bare, "text 3: " + text, "fault(3) = " + due);
    }

    /**
     * All bytes behind a beginning: those by which the text is whole, those by which its end comes
     * too early; by all others it can't go on.
     */
    private static void every(String begun, String whole, String early) {
        Edge e = new Edge(10, "fault, a byte behind '" + begun + "'");
        int size = begun.length() + 1;
        for (int b = -128; b < 128; b++) {
            String due = Integer.toString(begun.length());
            if (b >= 0 && whole.indexOf(b) >= 0) due = "NONE";
            if (b >= 0 && early.indexOf(b) >= 0) due = Integer.toString(size);
            e.goes(States::bare, "text 1: " + begun + "?", "put(1, " + (size - 1) + ", " + b + ") = 1063",
                "fault(1) = " + due);
        }
    }

    private static void everyByte() {
        every("", "plmdst", " ");
        every("  ", "plmdst", " ");
        every("p", " plmdst", "ag");
        every("pppppp", " ", "ag");
        every("tsdml ", " plmdst", "ag");
        every("ppp a01", " ", "ag");
        every("ppp g01 ", " ", "ag");
        every("ppp a", "", "012");
        every("ppp g", "", "012");
        every("ppp a0", "12", "");
        every("ppp a1", "02", "");
        every("ppp g2", "01", "");
        every("ppp a01 a1", "2", "");
        every("ppp g10 g0", "2", "");
        every("ppp a01 g1", "02", "");
        every("ppp g01 a0", "12", "");
        every("pppppp g5", "01234", "");
        every("p a", "", "0");
        every("p a0", "", "");
    }

    private static void persons() {
        Edge e = new Edge(10, "fault, PERSONS 1 to 6, a seventh at its place");
        faultOf(e, "p", "NONE");
        faultOf(e, "plmdst", "NONE");
        faultOf(e, "plmdstp", "6");
        faultOf(e, "p l m d s t", "NONE");
        faultOf(e, "p l m d s t  p", "13");
        Edge late = new Edge(10, "fault, a PERSON behind a HOUSE or a SIGN");
        faultOf(late, "pp a01 p", "7");
        faultOf(late, "pp g01 p", "7");
        faultOf(late, "ppa01p", "5");
        faultOf(late, "pppppp g01 p", "11");
        Edge ahead = new Edge(10, "fault, a HOUSE or a SIGN ahead of all PERSONS");
        faultOf(ahead, "a01pp", "0");
        faultOf(ahead, "  g01 pp", "2");
        faultOf(ahead, "a", "0");
        faultOf(ahead, "g0", "0");
    }

    private static void ties() {
        Edge e = new Edge(10, "fault, a PERSON that there is not");
        faultOf(e, "p a1", "3");
        faultOf(e, "p a01", "4");
        faultOf(e, "pp g20", "4");
        faultOf(e, "pp g02", "5");
        faultOf(e, "pppppp a50", "NONE");
        faultOf(e, "pppppp a60", "8");
        faultOf(e, "pppppp a06", "9");
        faultOf(e, "pppppp a95", "8");
        Edge same = new Edge(10, "fault, the same twice");
        faultOf(same, "pp a00", "5");
        faultOf(same, "pp g11", "5");
        faultOf(same, "pppppp g55", "9");
        faultOf(same, "p a00", "4");
        Edge within = new Edge(10, "fault, no blanks within items");
        faultOf(within, "pp a 01", "4");
        faultOf(within, "pp a0 1", "5");
        faultOf(within, "pp g 01", "4");
        faultOf(within, "pp a01 01", "7");
        Edge first = new Edge(10, "fault, the first place");
        faultOf(first, "px ax", "1");
        faultOf(first, "pp a00 p", "5");
        faultOf(first, "pp a22", "4");
        faultOf(first, "pp a01 a01 a", "9");
    }

    private static void toldAlready() {
        Edge e = new Edge(10, "fault, a HOUSE, a SIGN told already");
        faultOf(e, "pp a01 a01", "9");
        faultOf(e, "pp a01 a10", "9");
        faultOf(e, "pp g01 g01", "9");
        faultOf(e, "pp g10 g01", "9");
        faultOf(e, "pp a01 g01", "NONE");
        faultOf(e, "pp g10 a01", "NONE");
        faultOf(e, "pp a01 g01 a10", "13");
        faultOf(e, "pp a01 g01 g10", "13");
        faultOf(e, "ppp a01 a12 a02", "NONE");
        faultOf(e, "pppppp a45 g01 a54", "17");
        String all = "01 02 03 04 05 12 13 14 15 23 24 25 34 35 45";
        faultOf(e, "pppppp" + ("a" + all).replace(" ", "a"), "NONE");
        faultOf(e, "pppppp" + ("g" + all).replace(" ", "g"), "NONE");
        faultOf(e, "pppppp" + ("g" + all).replace(" ", "g") + "g54", "53");
        faultOf(e, "pppppp" + ("g" + all).replace(" ", "g") + "a54a10a32", "NONE");
        faultOf(e, "pppppp" + ("a" + all).replace(" ", "a") + "g54g10a32", "59");
    }

    private static void endsAndBlanks() {
        Edge early = new Edge(10, "fault, the size if the end comes too early");
        faultOf(early, "pa", "2");
        faultOf(early, "pp g", "4");
        faultOf(early, "pp g0", "5");
        faultOf(early, "pp a01 a1", "9");
        faultOf(early, "pp" + " ".repeat(57) + "a", "60");
        faultOf(early, "pp" + " ".repeat(56) + "a0", "60");
        faultOf(early, "pp" + " ".repeat(55) + "a01", "NONE");
        faultOf(early, "pp" + " ".repeat(55) + "a02", "59");
        Edge blanks = new Edge(10, "fault, the size of blanks alone");
        for (int n = 0; n <= 60; n++) blanks.goes(States::bare, "text(0, " + n + ") = " + n, "fault(0) = " + n);
        faultOf(blanks, " ".repeat(59) + "p", "NONE");
        faultOf(blanks, "p" + " ".repeat(59), "NONE");
        faultOf(blanks, " ".repeat(54) + "plmdst", "NONE");
        faultOf(blanks, " ".repeat(53) + "plmdstp", "59");
        Edge size = new Edge(10, "fault, what stood behind the end does not count");
        size.goes(States::bare, "text 0: pp g01 g02", "text(0, 5) = 5", "put(0, 0, 112) = 1032",
            "put(0, 1, 112) = 1032",
            "fault(0) = NONE", "put(0, 3, 103) = 1032", "put(0, 4, 48) = 1032", "fault(0) = 5");
    }

    private static void town() {
        Edge e = new Edge(11, "town");
        e.bounds(States::six, "town(#)", 0, 3);
        e.each(States::six, "town(0) = 6", "town(1) = STATE", "town(2) = STATE", "town(3) = NOTHING");
        e.each(States::sixFull, "town(0) = 6", "town(1) = STATE", "town(2) = STATE", "town(3) = NOTHING",
            "town(4) = BAD");
        e.each(States::nobody, "town(0) = 2", "town(1) = STATE", "town(3) = NOTHING", "town(MIN) = BAD");
        for (int n = 1; n <= 6; n++) {
            e.goes(States::six, "text 1: " + "dlmpst".substring(0, n), "town(1) = " + n, "count(0) = " + n,
                "person(" + (n - 1) + ", 0) = 1", "person(" + n + ", 0) = BAD");
        }
        Edge fault = new Edge(11, "town, STATE by a FAULT in the last place, which changes nothing");
        fault.goes(States::six, "text 3: lll a01 g12 g1", "town(3) = STATE", "count(0) = 6", "count(3) = 1",
            "count(4) = 1",
            "count(8) = 2", "person(0, 3) = 1, asked 9", "person(2, 4) = 1, asked 32", "on(2) = 3", "count(3) = 2");
    }

    private static void townAnew() {
        Edge e = new Edge(11, "town, anew: MORNING 0, no DEEDS, kept TOWNS go");
        e.goes(States::sixFullNoon, "town(0) = 6", "count(1) = 0", "count(2) = 0", "count(3) = 1", "count(4) = 0",
            "count(5) = 2", "count(6) = 4", "count(7) = 3", "count(8) = 0", "on(0) = NOTHING", "on(2) = NOTHING",
            "undo(1) = BAD", "undo(0) = 0", "person(0, 1) = 1, asked 0", "person(2, 1) = 1, asked 0", "deal(3) = 1",
            "noon() = 2");
        e.goes(States::six, "sign(0, 1) = 2", "text 3: l", "town(3) = 1", "count(3) = 0", "person(0, 3) = 1, asked 1",
            "person(0, 4) = 1, asked 0", "text 3: pppppp", "town(3) = 6", "count(3) = 0", "person(0, 3) = 1, asked 1",
            "person(5, 3) = 1, asked 32", "person(3, 0) = 1, asked 0", "person(5, 4) = 1, asked 0");
        Edge again = new Edge(11, "town, of one before nothing stays");
        again.goes(States::bare, "text 0: dddddd a01 g01", "town(0) = 6", "count(5) = 6", "text 1: ssssss a23 g23",
            "town(1) = 6", "count(5) = 0",
            "text 2: pppppp", "town(2) = 6", "count(5) = 0", "mark(0, 1) = UNLIKE", "mark(0, 3) = UNLIKE",
            "mark(0, 4) = UNLIKE", "tells(0, 5) = 1",
            "town(2) = 6", "mark(0, 2) = UNLIKE", "mark(5, 4) = UNLIKE", "tells(0, 5) = 1",
            "person(0, 2) = 1, asked 1", "count(3) = 0",
            "row(0, 0) = 0", "calls(0) = 1, 4096 by 1", "town(2) = 6", "calls(0) = 1, 4096 by 1", "fault(2) = NONE",
            "fault(0) = NONE",
            "calls(0) = 1, 4096 by 1", "town(0) = 6", "calls(0) = 1, 1024 by 1", "town(0) = 6", "town(0) = 6",
            "calls(0) = 1, 1024 by 1");
        Edge text = new Edge(11, "town, the TEXT goes its own way then");
        text.goes(States::six, "text(0, 0) = 0", "count(0) = 6", "town(0) = STATE", "count(0) = 6",
            "person(5, 0) = 1, asked 5");
    }

    private static void person() {
        Edge e = new Edge(12, "person");
        e.bounds(States::six, "person(#, 0)", 0, 5);
        e.bounds(States::six, "person(0, #)", 0, 4);
        e.bounds(States::one, "person(#, 4)", 0, 0);
        e.outside(States::nobody, "person(#, 0)", Integer.MIN_VALUE, -1, 0, 1, Integer.MAX_VALUE);
        e.each(States::six, "person(6, 5) = BAD", "person(-1, -1) = BAD",
            "person(0, 0) = 1, asked 0", "person(5, 0) = 1, asked 5", "person(0, 3) = 1, asked 9",
            "person(3, 3) = 1, asked 9",
            "person(1, 3) = 1, asked 2", "person(2, 4) = 1, asked 32", "person(5, 4) = 1, asked 4",
            "person(0, 4) = 1, asked 0");
        e.each(States::one, "person(0, 1) = 1, asked 0", "person(0, 2) = 1, asked 1", "person(0, 3) = 1, asked 1",
            "person(0, 4) = 1, asked 0");
        Edge houses = new Edge(12, "person, HOUSES that have one in common, and so on");
        houses.each(States.town("pppppp a05 a54 a43 a32 a21"), "person(0, 3) = 1, asked 63",
            "person(1, 3) = 1, asked 63", "person(3, 3) = 1, asked 63");
        houses.each(States.town("pppppp a01 a02 a03"), "person(1, 3) = 1, asked 15", "person(3, 3) = 1, asked 15",
            "person(4, 3) = 1, asked 16");
        houses.each(States.town("pppppp a50 a41 a32"), "person(0, 3) = 1, asked 33", "person(1, 3) = 1, asked 18",
            "person(2, 3) = 1, asked 12");
        houses.each(States.town("pppppp g05 g54 g43"), "person(0, 3) = 1, asked 1", "person(4, 4) = 1, asked 40");
    }

    private static void roundTheEnds() {
        Edge e = new Edge(12, "person, behind the last one the first, behind 3: 0, of the first one the last");
        e.goes(States.town("tdlltd"), "row 3: 1 3 0 2 2 3", "deal(3) = 1",
            "person(0, 2) = 1, asked 10", "person(1, 2) = 1, asked 9", "person(2, 2) = 1, asked 1",
            "person(3, 2) = 1, asked 4", "person(4, 2) = 1, asked 4", "person(5, 2) = 1, asked 9",
            "noon() = 2", "person(0, 2) = 1, asked 10", "person(1, 2) = 1, asked 9", "person(2, 2) = 1, asked 5",
            "person(3, 2) = 1, asked 4", "person(4, 2) = 1, asked 4", "person(5, 2) = 1, asked 11");
        e.goes(States.town("pl"), "row 3: 3 0", "deal(3) = 1", "noon() = 1", "person(1, 2) = 1, asked 9",
            "person(0, 2) = 1, asked 8");
        e.goes(States.town("tp"), "row 3: 3 0", "deal(3) = 1", "person(0, 2) = 1, asked 9", "noon() = 0",
            "person(1, 2) = 1, asked 1");
        Edge alone = new Edge(12, "person, one alone is its own next one and the one ahead");
        alone.goes(States.town("l"), "row 3: 3", "deal(3) = 1", "noon() = 0", "person(0, 2) = 1, asked 8");
        alone.goes(States.town("t"), "row 3: 3", "deal(3) = 1", "noon() = 0", "person(0, 2) = 1, asked 8");
        alone.goes(States.town("d"), "row 3: 3", "deal(3) = 1", "person(0, 2) = 1, asked 9", "noon() = 0",
            "person(0, 2) = 1, asked 9");
        Edge first = new Edge(12, "person, all DEALT 0 at first");
        for (int p = 0; p < 6; p++) first.goes(States.town("plmdst"), "person(" + p + ", 1) = 1, asked 0");
    }

    private static void mark() {
        Edge e = new Edge(13, "mark");
        e.bounds(States::six, "mark(#, 1)", 0, 5);
        e.bounds(States::six, "mark(0, #)", 1, 5);
        e.outside(States::nobody, "mark(#, 1)", Integer.MIN_VALUE, -1, 0, 1, Integer.MAX_VALUE);
        Edge zero = new Edge(13, "mark, BAD: also KIND 0, ahead of UNLIKE");
        for (int p = 0; p < 6; p++) zero.each(States::six, "mark(" + p + ", 0) = BAD", "mark(" + p + ", 6) = BAD");
        zero.each(States::six, "mark(6, 0) = BAD", "mark(6, 2) = BAD", "mark(-1, 5) = BAD");
        Edge kinds = new Edge(13, "mark, UNLIKE: a PERSON of another KIND");
        String[] due = {"UNLIKE UNLIKE UNLIKE UNLIKE UNLIKE", "1 UNLIKE UNLIKE UNLIKE UNLIKE",
            "UNLIKE 1 UNLIKE UNLIKE UNLIKE",
            "1 UNLIKE 2 UNLIKE UNLIKE", "UNLIKE 0 UNLIKE 1 UNLIKE", "UNLIKE UNLIKE UNLIKE UNLIKE 2"};
        for (int p = 0; p < 6; p++) {
            for (int kind = 1; kind < 6; kind++) {
                kinds.each(States::six, "mark(" + p + ", " + kind + ") = " + due[p].split(" ")[kind - 1]);
            }
        }
        kinds.each(States.town("pppppp"), "mark(0, 1) = UNLIKE", "mark(5, 5) = UNLIKE");
        kinds.each(States.town("s"), "mark(0, 2) = 0", "mark(0, 4) = 0", "mark(0, 1) = UNLIKE");
        kinds.each(States.town("l"), "mark(0, 1) = 0", "mark(0, 3) = UNLIKE");
        kinds.each(States.town("d"), "mark(0, 1) = 0", "mark(0, 3) = 0", "mark(0, 5) = UNLIKE");
        kinds.each(States.town("t"), "mark(0, 5) = 1", "mark(0, 1) = UNLIKE");
    }

    private static void markedRound() {
        Edge e = new Edge(13, "mark, behind 3: 0, behind the last one the first");
        e.goes(States.town("ppd"), "row 3: 0 3 3", "deal(3) = 1", "mark(2, 3) = 1", "mark(2, 1) = 0");
        e.goes(States.town("ppd"), "row 3: 0 0 3", "deal(3) = 1", "mark(2, 3) = 2", "mark(2, 1) = 0");
        e.goes(States.town("ppd"), "row 3: 1 3 3", "deal(3) = 1", "mark(2, 3) = 0", "mark(2, 1) = 1",
            "noon() = 1", "mark(2, 1) = 1", "mark(2, 3) = 0");
        e.goes(States.town("ddt"), "row 3: 2 3 0", "deal(3) = 1", "mark(0, 3) = 2", "mark(1, 3) = 1", "mark(2, 5) = 2");
        Edge silent = new Edge(13, "mark, a SILENT one is told ahead of NOON by SIGNS alone");
        silent.goes(States.town("psp g12"), "mark(1, 2) = 1", "mark(1, 4) = 2", "noon() = 0", "mark(1, 2) = 2",
            "mark(1, 4) = 2");
        silent.goes(States.town("mms"), "mark(0, 2) = 0", "mark(2, 2) = 0", "mark(2, 4) = 2", "noon() = 0",
            "mark(2, 2) = 0");
    }
}
