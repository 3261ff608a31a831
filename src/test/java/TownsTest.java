/** Promises 10 to 13: faults, towns, persons, marks. */
public final class TownsTest {
    public static void main(String[] args) {
        faultsNone();
        faultsOfPersons();
        faultsOfHousesAndSigns();
        faultRefused();
        town();
        townRefused();
        person();
        marks();
        marksRefused();
        Check.end("TownsTest");
    }

    private static void fault(String text, int want) {
        TonguesDealt x = new TonguesDealt();
        Check.write(x, 2, text);
        Check.due("fault of '" + text + "'", x.fault(2), want);
    }

    private static void faultsNone() {
        fault("p", Check.NONE);
        fault("  plm dst  ", Check.NONE);
        fault("ppa01", Check.NONE);
        fault("pp  g10  a01 ", Check.NONE);
        fault("ppp a01 a12 a02", Check.NONE);
        fault("ppg01a01", Check.NONE);
        fault("pppppp a01a02a03a04a05a12a13a14a15a23a24a25a34a35a45", Check.NONE);
        fault("tttttt g54 a54 g01", Check.NONE);
    }

    private static void faultsOfPersons() {
        fault("", 0);
        fault("   ", 3);
        fault("x", 0);
        fault("P", 0);
        fault(" a01", 1);
        fault("g01", 0);
        fault("ppppppp", 6);
        fault("pppppp  l", 8);
        fault("pp a01 p", 7);
        fault("pp g01d", 6);
        fault("pp\u0000", 2);
        fault("pp\u00f0", 2);
        fault("pp1", 2);
    }

    private static void faultsOfHousesAndSigns() {
        fault("pp a", 4);
        fault("pp a0", 5);
        fault("pp a ", 4);
        fault("pp a 01", 4);
        fault("pp a0 1", 5);
        fault("pp a2", 4);
        fault("pp a02", 5);
        fault("pp a00", 5);
        fault("pp a0a", 5);
        fault("pp a/0", 4);
        fault("pp a01a01", 8);
        fault("pp a01 a10", 9);
        fault("pp g10 g01", 9);
        fault("pp a01 g01 a01", 13);
        fault("pp a01 x", 7);
        fault("pp a012", 6);
        fault("pppppp g06", 9);
        fault("p a0", 4);
        fault("p a01", 4);
        String longest = "pp" + " ".repeat(55);
        fault(longest + "a01", Check.NONE);
        fault(longest + "  a", 60);
        fault(longest + " a0", 60);
        fault(longest + "a 0", 58);
    }

    private static void faultRefused() {
        TonguesDealt x = Check.town("pp g01");
        x.text(0, 5);
        x.put(0, 0, 'p');
        x.put(0, 1, 'p');
        x.put(0, 3, 'g');
        x.put(0, 4, '0');
        Check.due("fault(0), what stood behind the end is gone", x.fault(0), 5);
        Check.due("fault(-1)", x.fault(-1), Check.BAD);
        Check.due("fault(4)", x.fault(4), Check.BAD);
        Check.finds(x, "fault(3)", x.fault(3), Check.NOTHING);
        Check.write(x, 1, "lll g12");
        Check.due("fault(1)", x.fault(1), Check.NONE);
        Check.due("persons behind fault()", x.count(0), 2);
        Check.asks(x, "person(0, 4) behind fault()", x.person(0, 4), 2);
    }

    private static void town() {
        TonguesDealt x = Check.dealt("pldm g01", 1, 2, 3, 0);
        x.noon();
        x.sign(2, 3);
        x.keep(0);
        x.keep(2);
        Check.write(x, 1, "ld a01");
        Check.due("town(1)", x.town(1), 2);
        int[] want = {2, 0, 0, 0, 0, 2, 1, 2, 0};
        for (int what = 0; what < want.length; what++) {
            Check.due("count(" + what + ") anew", x.count(what), want[what]);
        }
        Check.finds(x, "on(0) anew", x.on(0), Check.NOTHING);
        Check.asks(x, "person(1, 1) anew", x.person(1, 1), 0);
        Check.asks(x, "person(1, 4) anew", x.person(1, 4), 0);
        Check.asks(x, "person(1, 3) anew", x.person(1, 3), 3);
        x.put(1, 0, 'x');
        Check.asks(x, "person(0, 0), the text changed", x.person(0, 0), 1);
    }

    private static void townRefused() {
        TonguesDealt x = Check.dealt("pp", 1, 2);
        x.keep(1);
        Check.write(x, 1, "ppx");
        Check.due("town by a fault", x.town(1), Check.STATE);
        Check.due("town(4)", x.town(4), Check.BAD);
        Check.due("town(-1)", x.town(-1), Check.BAD);
        Check.finds(x, "town(3)", x.town(3), Check.NOTHING);
        Check.due("persons behind refusals", x.count(0), 2);
        Check.due("deeds behind refusals", x.count(4), 1);
        Check.due("kept towns behind refusals", x.count(8), 1);
        Check.asks(x, "person(1, 1) behind refusals", x.person(1, 1), 2);
    }

    private static void person() {
        TonguesDealt x = Check.dealt("plmdst a03 a35 g12 g24", 3, 1, 2, 3, 0, 3);
        int[] ahead = {8, 2, 4, 9, 1, 9};
        int[] behind = {8, 6, 4, 9, 1, 9};
        int[] alike = {41, 2, 4, 41, 16, 41};
        int[] signs = {0, 4, 18, 0, 4, 0};
        int[] tongues = {3, 1, 2, 3, 0, 3};
        for (int p = 0; p < 6; p++) {
            Check.asks(x, "kind of " + p, x.person(p, 0), p);
            Check.asks(x, "dealt to " + p, x.person(p, 1), tongues[p]);
            Check.asks(x, "known ahead by " + p, x.person(p, 2), ahead[p]);
            Check.asks(x, "dealt as " + p, x.person(p, 3), alike[p]);
            Check.asks(x, "signs of " + p, x.person(p, 4), signs[p]);
        }
        x.noon();
        for (int p = 0; p < 6; p++) Check.asks(x, "known behind by " + p, x.person(p, 2), behind[p]);
        Check.due("person(6, 0)", x.person(6, 0), Check.BAD);
        Check.due("person(-1, 0)", x.person(-1, 0), Check.BAD);
        Check.due("person(0, 5)", x.person(0, 5), Check.BAD);
        Check.due("person(0, -1)", x.person(0, -1), Check.BAD);
        Check.due("asked() behind refusals", x.asked(), 9);
        TonguesDealt round = Check.dealt("tpl", 0, 1, 3);
        Check.asks(round, "the first twin", round.person(0, 2), 9);
        round.noon();
        Check.asks(round, "the last learner", round.person(2, 2), 9);
        TonguesDealt alone = Check.town("d");
        alone.noon();
        Check.asks(alone, "a double alone", alone.person(0, 2), 3);
    }

    private static void marks() {
        TonguesDealt x = Check.dealt("dlmsst g23", 3, 0, 0, 2, 0, 1);
        Check.due("a double as learner: it knows that one already", x.mark(0, 1), 0);
        Check.due("a learner", x.mark(1, 1), 0);
        Check.due("a double", x.mark(0, 3), 4);
        Check.due("a mute one", x.mark(2, 2), 4);
        Check.due("a silent one as mute, by a sign", x.mark(3, 2), 1);
        Check.due("a silent one as mute", x.mark(4, 2), 0);
        Check.due("a silent one", x.mark(4, 4), 4);
        Check.due("a silent one alone with its tongue", x.mark(3, 4), 0);
        Check.due("a twin", x.mark(5, 5), 2);
        x.noon();
        Check.due("a silent one as mute from noon on", x.mark(4, 2), 3);
        TonguesDealt y = Check.dealt("lld", 1, 2, 0);
        Check.due("a learner ahead of noon", y.mark(0, 1), 1);
        Check.due("the last double's next one is the first", y.mark(2, 1), 0);
        y.noon();
        Check.due("a learner behind noon", y.mark(0, 1), 1);
        Check.due("a double behind noon", y.mark(2, 3), 1);
        Check.due("a twin alone", Check.town("t").mark(0, 5), 1);
    }

    private static void marksRefused() {
        TonguesDealt x = Check.town("plmdst");
        boolean[][] is = {
            {false, false, false, false, false}, {true, false, false, false, false},
            {false, true, false, false, false}, {true, false, true, false, false},
            {false, true, false, true, false}, {false, false, false, false, true}};
        int unlike = 0;
        for (int p = 0; p < 6; p++) {
            Check.due("mark(" + p + ", 0)", x.mark(p, 0), Check.BAD);
            Check.due("mark(" + p + ", 6)", x.mark(p, 6), Check.BAD);
            for (int kind = 1; kind < 6; kind++) {
                int got = x.mark(p, kind);
                if (is[p][kind - 1]) Check.holds("mark(" + p + ", " + kind + ")", got >= 0);
                else Check.finds(x, "mark(" + p + ", " + kind + ")", got, Check.UNLIKE);
                if (!is[p][kind - 1]) unlike++;
            }
        }
        Check.due("findings(3)", x.findings(3), unlike);
        Check.due("mark(6, 1)", x.mark(6, 1), Check.BAD);
        Check.due("mark(-1, 1)", x.mark(-1, 1), Check.BAD);
        Check.due("mark(0, -1)", x.mark(0, -1), Check.BAD);
    }
}
