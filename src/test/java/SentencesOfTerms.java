/** The document's terms. */
final class SentencesOfTerms {
    private static final Sentences TERMS = new Sentences(0);

    private SentencesOfTerms() {
    }

    static void run() {
        refusals();
        told();
        texts();
        faults();
        kinds();
        dealt();
        knows();
        tells();
        orders();
        mornings();
    }

    private static void refusals() {
        TERMS.says("Refused is, the first of these that fits, in this order: BAD -1 (a number that is none, or not as "
                + "told), FULL -2, STATE -4 (not now), SPENT -6 (more than told), FINDING -3 (finding() tells which), "
                + "unless a call says so otherwise.",
            States::bare, "row(6, -1) = -1", "text(4, -1) = -1", "copy(0, 0, 6, 0, -1) = -1", "keep(3) = -1",
            "deal(6) = -1", "deal(0) = -4", "calls(0) = -4", "crew() = -4", "finding() = 0", "row(5, -1) = -3",
            "finding() = 5", "at(0, 0) = -3", "finding() = 1")
            .also(States::six, "mark(0, 0) = -1", "mark(0, 1) = -3", "finding() = 3", "part(0, 3, 3) = -1",
                "part(0, 3, 1) = -4")
            .also(States::sixFull, "sign(0, 0) = -1", "sign(0, 1) = -2", "sign(2, 5) = -4", "lots(0, 1) = -1",
                "lots(1, 1) = -2", "deal(3) = -2", "deal(5) = -3", "noon() = -2")
            .also(States::sixFullNoon, "noon() = -4");
        TERMS.says("NONE -9.",
            States::six, "fault(0) = -9", "order(0, 4, 2) = -9", "broken(4) = -9", "finding() = 4")
            .also(Sentences.town("pp"), "signs(0, 1) = -9");
        TERMS.says("What is refused changes nothing but finding(), findings().",
            States::six, "findings(1) = 0", "at(2, 0) = -3", "findings(1) = 1", "tear(2) = -3", "findings(1) = 2")
            .refuses(States::six, "row(0, 41) = BAD", "row(0, -1) = SIZE", "lay(0, 40, 1) = BEYOND",
                "copy(0, 1, 3, 0, 7) = BEYOND", "mean(1) = NOUGHT", "text(0, 61) = BAD", "text(0, -1) = SIZE",
                "put(1, 60, 0) = BEYOND", "town(1) = STATE", "town(3) = NOTHING", "person(6, 0) = BAD",
                "mark(0, 1) = UNLIKE", "deal(4) = SIZE", "sign(2, 5) = STATE", "undo(2) = BAD", "keep(3) = BAD",
                "on(1) = NOTHING", "order(0, 0, 3) = BAD", "needs(0, 6) = BAD", "signs(0, 0) = BAD",
                "odds(0, 5, 5) = BAD", "part(0, 3, 1) = STATE", "houses(0) = SIZE", "rule(5, 0) = NOTHING",
                "broken(0) = SIZE", "shouted(64) = BAD", "calls(3) = SIZE", "lots(21, 1) = BAD")
            .refuses(States::sixFull, "deal(3) = FULL", "noon() = FULL", "sign(0, 1) = FULL", "lots(1, 1) = FULL");
        TERMS.says("FINDINGS: 1 NOTHING (a ROW, a TEXT, a kept TOWN that is missing), 2 BEYOND (a place that there is "
                + "not), 3 UNLIKE (a PERSON of another KIND; a number that is none; a deal by which a house does not "
                + "agree), 4 NOUGHT (shared among none), 5 SIZE (fewer than none; not as many as due).",
            States::bare, "at(0, 0) = -3", "finding() = 1", "put(0, 0, 0) = -3", "finding() = 1", "on(0) = -3",
            "finding() = 1", "findings(1) = 3", "row 0: 4 0", "at(0, 2) = -3", "finding() = 2", "text 0: pp a01",
            "put(0, 6, 0) = -3", "finding() = 2", "findings(2) = 2", "town(0) = 2", "mark(0, 5) = -3", "finding() = 3",
            "deal(0) = -3", "findings(3) = 2", "row 0: 1 0", "deal(0) = -3", "findings(3) = 3", "row 0: 4",
            "calls(0) = -3", "findings(3) = 4", "row(1, 0) = 0", "mean(1) = -3", "finding() = 4", "findings(4) = 1",
            "row(1, -1) = -3", "finding() = 5", "deal(1) = -3", "findings(5) = 2", "findings(1) = 3");
    }

    private static void told() {
        TERMS.says("Chances, parts are told by upper(), lower(), in lowest terms, the lower number above 0 (0 by 1).",
            Sentences.town("pp"), "odds(0, 1, 0) = 1, 1 by 4")
            .also(Sentences.town("pp a01"), "odds(0, 1, 0) = 1, 1 by 1")
            .also(Sentences.town("mm"), "odds(0, 1, 0) = 1, 0 by 1")
            .also(Sentences.town("mmmmmm g01 g02 g15 g25"), "part(0, 5, 1) = 1, 1 by 2", "part(0, 5, 3) = 1, 0 by 1",
                "odds(0, 5, 1) = 1, 1 by 1", "odds(0, 5, 0) = 1, 0 by 1");
        TERMS.says("Sets (of PERSONS, of TONGUES) are told by bits.",
            Sentences.dealt("pdpt", 3, 2, 3, 0), "reach(0) = 15", "crew() = 4, asked 15", "person(0, 2) = 1, asked 8",
            "person(1, 2) = 1, asked 12", "person(3, 2) = 1, asked 9", "shouted(15) = 8", "shouted(2) = 4",
            "shouted(8) = 1", "shouted(0) = 2");
        TERMS.says("ROWS 0 .. 5 are rows of 0 to 40 ints, TEXTS 0 .. 3 rows of 0 to 60 bytes, or missing (at first).",
            States::bare, "at(0, 0) = NOTHING", "at(5, 0) = NOTHING", "at(6, 0) = BAD", "put(0, 0, 1) = NOTHING",
            "put(3, 0, 1) = NOTHING", "put(4, 0, 1) = BAD", "row(0, 0) = 0", "row(5, 40) = 40", "row(5, 41) = BAD",
            "lay(5, 39, MIN) = 1", "lay(5, 39, MAX) = 1, asked MIN", "at(5, 39) = 1, asked MAX", "text(0, 0) = 0",
            "text(3, 60) = 60", "text(3, 61) = BAD", "put(3, 59, 127) = 1032", "put(3, 59, 0) = 1127");
    }

    private static void texts() {
        TERMS.says("A TOWN (without PERSONS at first) is a TEXT: blanks (32) ahead, between, behind as many as wanted, "
                + "none within items.",
            States::bare, "count(0) = 0", "text 0:   p   l  a01    g10   ", "fault(0) = NONE", "town(0) = 2",
            "text 0: pla01g10", "town(0) = 2", "text 0: pl a 01", "fault(0) = 4", "text 0: pl g0 1", "fault(0) = 5",
            "text 0: p l", "put(0, 1, 9) = 1032", "fault(0) = 1", "put(0, 1, 0) = 1009", "fault(0) = 1");
        TERMS.says("First PERSONS (1 to 6; 0, 1, .. as they come), a letter each.",
            States::bare, "text 0: t", "town(0) = 1", "text 0: stdmlp", "town(0) = 6", "person(0, 0) = 1, asked 4",
            "person(1, 0) = 1, asked 5", "person(2, 0) = 1, asked 3", "person(3, 0) = 1, asked 2",
            "person(4, 0) = 1, asked 1", "person(5, 0) = 1, asked 0", "person(6, 0) = BAD", "text 0: stdmlps",
            "town(0) = STATE", "text 0:  ", "town(0) = STATE", "count(0) = 6");
        TERMS.says("Then HOUSES and SIGNS, in any order: a (97) or g (103), two PERSONS (one figure each, unlike): of a "
                + "HOUSE (a) both are always dealt alike, a SIGN (g) both know.",
            States::bare, "text 0: pppp g01 a12 g20", "put(0, 5, 103) = 1103", "put(0, 9, 97) = 1097", "town(0) = 4",
            "person(1, 3) = 1, asked 6", "person(2, 3) = 1, asked 6", "person(0, 3) = 1, asked 1",
            "person(0, 4) = 1, asked 6", "person(1, 4) = 1, asked 1", "person(2, 4) = 1, asked 1",
            "person(3, 4) = 1, asked 0", "row 0: 0 1 2 3", "deal(0) = UNLIKE", "row 0: 0 1 1 3", "deal(0) = 1",
            "tells(0, 1) = 1", "tells(2, 0) = 1", "tells(3, 0) = 0", "text 0: pppp a00", "fault(0) = 7");
        TERMS.says("A HOUSE, a SIGN of two PERSONS that was told already, whichever is named first, is a FAULT at the "
                + "second figure.",
            States::bare, "text 0: ppp a01 a01", "fault(0) = 10", "text 0: ppp a01 a10", "fault(0) = 10",
            "text 0: ppp g21 g21", "fault(0) = 10", "text 0: ppp g21 a21 g12", "fault(0) = 14",
            "text 0: ppp a01 g01 a02 g20 a12 g21", "fault(0) = NONE");
    }

    private static void faults() {
        TERMS.says("A FAULT is the first place at which it can't go on so (a letter, a figure that is none such, a "
                + "PERSON that there is not, the same twice; a seventh PERSON, a PERSON behind a HOUSE or a SIGN, one "
                + "of these ahead of all PERSONS: its place; the TEXT's size, if its end comes too early, or there are "
                + "blanks alone).",
            States::bare, "text 0: pp x", "fault(0) = 3", "text 0: ppA01", "fault(0) = 2", "text 0: pp axy",
            "fault(0) = 4", "text 0: pp a0x", "fault(0) = 5", "text 0: pp a20", "fault(0) = 4", "text 0: pp g02",
            "fault(0) = 5", "text 0: pp g11", "fault(0) = 5", "text 0: plmdst p", "fault(0) = 7")
            .also(States::bare, "text 0: pp a01 p", "fault(0) = 7", "text 0: pp g01p", "fault(0) = 6", "text 0:  a01 pp",
                "fault(0) = 1", "text 0: g01pp", "fault(0) = 0", "text 0: pp a", "fault(0) = 4", "text 0: pp a0",
                "fault(0) = 5", "text 0: pp g1", "fault(0) = 5", "text(0, 7) = 7", "fault(0) = 7", "text(0, 0) = 0",
                "fault(0) = 0", "text 0: pp 01", "fault(0) = 3", "text 0: pp a012", "fault(0) = 6");
    }

    private static void kinds() {
        TERMS.says("KINDS of PERSONS and letters: 0 PERSON (p, 112), 1 LEARNER (l, 108; a PERSON), 2 MUTE (m, 109; a "
                + "PERSON), 3 DOUBLE (d, 100; a LEARNER), 4 SILENT (s, 115; a MUTE), 5 TWIN (t, 116; a PERSON).",
            States::bare, "text(0, 6) = 6", "put(0, 0, 112) = 1032", "put(0, 1, 108) = 1032", "put(0, 2, 109) = 1032",
            "put(0, 3, 100) = 1032", "put(0, 4, 115) = 1032", "put(0, 5, 116) = 1032", "town(0) = 6",
            "person(0, 0) = 1, asked 0", "person(1, 0) = 1, asked 1", "person(2, 0) = 1, asked 2",
            "person(3, 0) = 1, asked 3", "person(4, 0) = 1, asked 4", "person(5, 0) = 1, asked 5", "count(5) = 2",
            "mark(3, 1) = 0", "mark(4, 2) = 0", "mark(1, 3) = UNLIKE", "mark(2, 4) = UNLIKE", "mark(5, 1) = UNLIKE",
            "mark(5, 5) = 1", "mark(0, 1) = UNLIKE", "mark(0, 2) = UNLIKE");
        TERMS.says("TONGUES are 0 .. 3.",
            Sentences.town("pppp"), "row 0: 0 1 2 3", "deal(0) = 1", "row 0: 0 1 2 4", "deal(0) = UNLIKE",
            "row 0: -1 1 2 3", "deal(0) = UNLIKE", "person(3, 1) = 1, asked 3", "person(3, 2) = 1, asked 8");
    }

    private static void dealt() {
        TERMS.says("DEALT to each PERSON is one each MORNING (all 0 at first, on MORNING 0, ahead of NOON).",
            Sentences.town("pld"), "person(0, 1) = 1, asked 0", "person(1, 1) = 1, asked 0", "person(2, 1) = 1, asked 0",
            "count(1) = 0", "count(2) = 0", "row 0: 3 1 2", "deal(0) = 1", "person(0, 1) = 1, asked 3",
            "person(1, 1) = 1, asked 1", "person(2, 1) = 1, asked 2", "noon() = 1", "person(1, 1) = 1, asked 1",
            "row 0: 0 0 1", "deal(0) = 2", "count(2) = 0", "person(0, 1) = 1, asked 0", "person(2, 1) = 1, asked 1");
        TERMS.says("PERSONS of a HOUSE (and of HOUSES that have one in common, and so on) are dealt alike.",
            Sentences.town("pppppp a51 a12 a40 a25"), "row 0: 1 2 2 3 1 2", "deal(0) = 1", "row 0: 1 2 2 3 1 1",
            "deal(0) = UNLIKE", "row 0: 1 2 3 3 1 2", "deal(0) = UNLIKE", "row 0: 0 2 2 3 1 2", "deal(0) = UNLIKE",
            "person(5, 3) = 1, asked 38", "person(1, 3) = 1, asked 38", "person(0, 3) = 1, asked 17",
            "person(3, 3) = 1, asked 8", "lots(1, 9) = 0", "person(0, 1) = 1, asked 0", "person(4, 1) = 1, asked 0",
            "person(1, 1) = 1, asked 2", "person(2, 1) = 1, asked 2", "person(5, 1) = 1, asked 2",
            "person(3, 1) = 1, asked 3");
    }

    private static void knows() {
        TERMS.says("A PERSON KNOWS the TONGUE that it was DEALT; a LEARNER (a DOUBLE one, too) from NOON on also what "
                + "the next one by number (behind the last one the first) was DEALT; a DOUBLE one besides, all day, 1 "
                + "more than it was DEALT (behind 3: 0); a TWIN besides what the one ahead by number (of the first one "
                + "the last) was DEALT.",
            Sentences.dealt("plmdst", 2, 3, 1, 3, 1, 0), "person(0, 2) = 1, asked 4", "person(1, 2) = 1, asked 8",
            "person(2, 2) = 1, asked 2", "person(3, 2) = 1, asked 9", "person(4, 2) = 1, asked 2",
            "person(5, 2) = 1, asked 3", "noon() = 2", "person(0, 2) = 1, asked 4", "person(1, 2) = 1, asked 10",
            "person(2, 2) = 1, asked 2", "person(3, 2) = 1, asked 11", "person(4, 2) = 1, asked 2",
            "person(5, 2) = 1, asked 3")
            .also(Sentences.dealt("tpl", 1, 2, 3), "person(0, 2) = 1, asked 10", "person(2, 2) = 1, asked 8",
                "noon() = 1", "person(0, 2) = 1, asked 10", "person(2, 2) = 1, asked 10")
            .also(Sentences.dealt("pd", 3, 0), "person(1, 2) = 1, asked 3", "noon() = 1", "person(1, 2) = 1, asked 11");
    }

    private static void tells() {
        TERMS.says("One TELLS another one, if both know a SIGN; or if there is a TONGUE that both KNOW, and the one is "
                + "not MUTE (SILENT neither), and the other one is not SILENT ahead of NOON.",
            Sentences.dealt("pms g12", 3, 1, 2), "tells(1, 2) = 1", "tells(2, 1) = 1", "tells(0, 1) = 0",
            "tells(0, 2) = 0", "tells(1, 0) = 0")
            .also(Sentences.dealt("pmsl", 1, 1, 1, 1), "tells(0, 1) = 1", "tells(0, 2) = 0", "tells(0, 3) = 1",
                "tells(1, 0) = 0", "tells(1, 2) = 0", "tells(2, 0) = 0", "tells(2, 1) = 0", "tells(3, 0) = 1",
                "noon() = 0", "tells(0, 2) = 1", "tells(3, 2) = 1", "tells(1, 2) = 0", "tells(2, 0) = 0")
            .also(Sentences.dealt("pd", 3, 2), "tells(0, 1) = 1", "tells(1, 0) = 1")
            .also(Sentences.dealt("pl", 3, 2), "tells(0, 1) = 0", "noon() = 1", "tells(0, 1) = 1", "tells(1, 0) = 1")
            .also(Sentences.dealt("pptp", 3, 2, 0, 1), "tells(1, 2) = 1", "tells(2, 1) = 1", "tells(0, 2) = 0",
                "tells(3, 2) = 0");
    }

    private static void orders() {
        TERMS.says("An ORDER goes from one to another one by MOUTHS: each TELLS the next one; MOUTHS are those between "
                + "(0: told at once).",
            Sentences.dealt("pdmp g23", 0, 3, 3, 1), "tells(0, 1) = 1", "tells(1, 2) = 1", "tells(2, 3) = 1",
            "tells(0, 2) = 0", "tells(1, 3) = 0", "order(0, 1, 0) = 0", "order(0, 2, 0) = 1", "order(0, 3, 0) = 2",
            "at(0, 0) = 1, asked 0", "at(0, 1) = 1, asked 1", "at(0, 2) = 1, asked 2", "at(0, 3) = 1, asked 3",
            "order(3, 2, 0) = 0", "order(3, 0, 0) = NONE");
        TERMS.says("DEEDS are MORNINGS, NOONS, SIGNS agreed (40 at most).",
            Sentences.town("ppp a02"), "count(4) = 0", "row 0: 1 2 1", "deal(0) = 1", "count(4) = 1", "noon() = 0",
            "count(4) = 2", "sign(0, 1) = 1", "count(4) = 3", "lots(20, 1) = 20", "undo(3) = 20", "lots(18, 5) = 18",
            "count(4) = 21", "lots(19, 6) = 19", "count(4) = 40", "noon() = FULL", "deal(0) = FULL",
            "sign(0, 2) = FULL", "lots(1, 1) = FULL", "count(4) = 40", "undo(39) = 1", "sign(0, 2) = 2", "count(4) = 40");
    }

    private static void mornings() {
        TERMS.says("---- 5 mornings (a ROW: so many times as many TONGUES as there are PERSONS, morning by morning; SIZE: "
                + "not so, or more than 40).",
            Sentences.town("pppp"), "row(0, 40) = 40", "broken(0) = NONE", "rule(0, 0) = 15", "row(0, 39) = 39",
            "houses(0) = SIZE", "rule(0, 0) = SIZE", "broken(0) = SIZE", "row 0: 0 1 2 3 1 2 3 0", "rule(0, 1) = 15",
            "row 0: 0 1 1 2 2 3 3 0", "rule(0, 1) = 0", "row(0, 0) = 0", "rule(0, 3) = 15", "row(0, 2) = 2",
            "broken(0) = SIZE");
    }
}
