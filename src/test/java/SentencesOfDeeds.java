/** Promises 14 to 28. */
final class SentencesOfDeeds {
    private SentencesOfDeeds() {
    }

    static void run() {
        deals();
        noonsAndSigns();
        undone();
        orders();
        crews();
        signs();
        chances();
    }

    private static void deals() {
        new Sentences(14).says("A MORNING: DEALT is as in a ROW (a TONGUE for each PERSON): the MORNING.",
            Sentences.town("pp"), "row 0: 3 1", "deal(0) = 1", "person(0, 1) = 1, asked 3", "person(1, 1) = 1, asked 1",
            "noon() = 0", "deal(0) = 2", "count(1) = 2", "count(2) = 0", "lay(0, 0, 0) = 1",
            "person(0, 1) = 1, asked 3")
            .says("BAD; STATE: no PERSONS; NOTHING; SIZE: not as many; UNLIKE: no TONGUE, or a house does not agree; "
                + "FULL: 40 DEEDS.",
                States::bare, "deal(6) = BAD", "deal(-1) = BAD", "deal(0) = STATE", "text 0: pp a01", "town(0) = 2",
                "deal(0) = NOTHING", "row 0: 1", "deal(0) = SIZE", "row 0: 1 1 1", "deal(0) = SIZE", "row 0: 4 4",
                "deal(0) = UNLIKE", "row 0: -1 -1", "deal(0) = UNLIKE", "row 0: 1 2", "deal(0) = UNLIKE", "row 0: 1 1",
                "lots(20, 1) = 20", "lots(19, 1) = 19", "deal(0) = 40", "deal(0) = FULL")
            .says("(In this order.)",
                Sentences.town("pp a01"), "lots(20, 1) = 20", "lots(20, 1) = 20", "deal(6) = BAD", "deal(0) = NOTHING",
                "row 0: 9 9 9", "deal(0) = SIZE", "row 0: 9 9", "deal(0) = UNLIKE", "row 0: 1 2", "deal(0) = UNLIKE",
                "row 0: 2 2", "deal(0) = FULL");
    }

    private static void noonsAndSigns() {
        new Sentences(15).says("NOON: how many PERSONS KNOW more TONGUES then.",
            Sentences.dealt("lldt", 1, 2, 2, 0), "noon() = 2", "count(2) = 1", "count(4) = 2",
            "person(0, 2) = 1, asked 6", "person(1, 2) = 1, asked 4", "person(2, 2) = 1, asked 13")
            .says("STATE: no PERSONS, or it was; FULL.",
                States::bare, "noon() = STATE", "text 0: p", "town(0) = 1", "noon() = 0", "noon() = STATE", "undo(0) = 1",
                "noon() = 0")
            .also(States::sixFull, "noon() = FULL", "undo(39) = 1", "noon() = 2")
            .says("(FULL last.)", States::sixFullNoon, "noon() = STATE");
        new Sentences(16).says("A SIGN is agreed between two PERSONS: how many SIGNS there are.",
            Sentences.dealt("mmm g01", 1, 2, 3), "tells(1, 2) = 0", "sign(2, 1) = 2", "tells(1, 2) = 1",
            "tells(2, 1) = 1", "count(3) = 2", "count(4) = 2", "sign(0, 2) = 3")
            .says("BAD: also the same; STATE: they know one; FULL.",
                Sentences.town("ppp g01"), "sign(0, 3) = BAD", "sign(-1, 0) = BAD", "sign(1, 1) = BAD",
                "sign(0, 1) = STATE", "sign(1, 0) = STATE", "sign(1, 2) = 2", "sign(2, 1) = STATE")
            .also(States::sixFull, "sign(0, 1) = FULL")
            .says("(FULL last.)", States::sixFull, "sign(2, 5) = STATE", "sign(0, 0) = BAD");
    }

    private static void undone() {
        new Sentences(17).says("DEEDS from number n on are undone: how many.",
            Sentences.dealt("pl", 1, 2), "noon() = 1", "sign(0, 1) = 1", "row 0: 3 0", "deal(0) = 2", "undo(3) = 1",
            "count(1) = 1", "count(2) = 1", "count(3) = 1", "person(0, 1) = 1, asked 1", "undo(2) = 1", "count(3) = 0",
            "undo(1) = 1", "count(2) = 0", "undo(0) = 1", "count(1) = 0", "person(1, 1) = 1, asked 0", "undo(0) = 0",
            "deal(0) = 1", "noon() = 1", "undo(0) = 2", "count(4) = 0")
            .says("BAD.", Sentences.dealt("pl", 1, 2), "undo(2) = BAD", "undo(-1) = BAD", "undo(1) = 0")
            .also(States::bare, "undo(0) = 0", "undo(1) = BAD");
        new Sentences(18).says("The TOWN (as it is, SIGNS, DEEDS) is kept in a place (0 .. 2): how many DEEDS.",
            Sentences.dealt("pl", 1, 2), "noon() = 1", "keep(2) = 2", "sign(0, 1) = 1", "keep(0) = 3", "count(8) = 2",
            "undo(0) = 3", "keep(1) = 0", "count(8) = 3", "keep(0) = 0", "count(8) = 3", "count(4) = 0")
            .says("BAD; STATE: no PERSONS.",
                States::bare, "keep(3) = BAD", "keep(-1) = BAD", "keep(0) = STATE", "keep(2) = STATE");
        new Sentences(19).says("The TOWN is as it was kept: how many DEEDS.",
            Sentences.dealt("pl", 1, 2), "noon() = 1", "sign(0, 1) = 1", "keep(1) = 3", "undo(0) = 3", "row 0: 3 3",
            "deal(0) = 1", "on(1) = 3", "count(1) = 1", "count(2) = 1", "count(3) = 1", "person(0, 1) = 1, asked 1",
            "person(1, 2) = 1, asked 6", "deal(0) = 2", "undo(2) = 2", "count(3) = 0", "on(1) = 3", "on(1) = 3",
            "count(3) = 1")
            .says("BAD; NOTHING.", Sentences.town("pl"), "on(3) = BAD", "on(-1) = BAD", "on(0) = NOTHING",
                "keep(0) = 0", "on(0) = 0", "on(1) = NOTHING");
    }

    private static void orders() {
        new Sentences(20).says("Whether one TELLS another one now (1, 0).",
            Sentences.dealt("pml", 1, 1, 2), "tells(0, 1) = 1", "tells(1, 0) = 0", "tells(2, 0) = 0", "noon() = 1",
            "tells(2, 0) = 1", "tells(2, 1) = 1", "tells(0, 2) = 1")
            .says("BAD: also the same.", Sentences.town("pp"), "tells(0, 2) = BAD", "tells(-1, 0) = BAD",
                "tells(1, 1) = BAD");
        new Sentences(21).says("The fewest MOUTHS by which an ORDER goes now; such a way (both ends, too; the first by "
                + "numbers) comes to a ROW (anew).",
            Sentences.town("mmmmmm g04 g02 g25 g45 g01 g13 g35"), "row 0: 7 7 7 7 7 7 7", "order(0, 5, 0) = 1",
            "at(0, 0) = 1, asked 0", "at(0, 1) = 1, asked 2", "at(0, 2) = 1, asked 5", "at(0, 3) = BEYOND",
            "order(3, 4, 0) = 1", "at(0, 1) = 1, asked 5", "order(3, 2, 2) = 1", "at(2, 1) = 1, asked 5",
            "order(1, 5, 2) = 1", "order(0, 1, 2) = 0", "at(2, 1) = 1, asked 1", "at(2, 2) = BEYOND")
            .also(Sentences.town("mmmmmm g05 g04 g41 g51 g12 g23"), "order(0, 3, 0) = 3", "at(0, 1) = 1, asked 4",
                "at(0, 2) = 1, asked 1", "at(0, 3) = 1, asked 2", "at(0, 4) = 1, asked 3")
            .says("NONE: by none.", Sentences.town("mp"), "order(0, 1, 0) = NONE", "order(1, 0, 0) = 0")
            .says("BAD: also the same.", Sentences.town("mp"), "order(0, 2, 0) = BAD", "order(-1, 0, 0) = BAD",
                "order(0, 0, 0) = BAD", "order(0, 1, 6) = BAD", "order(0, 1, -1) = BAD");
        new Sentences(22).says("MOUTHS (bits) without each of which (alone) an ORDER does not go now, others than its "
                + "ends; whether it goes now by asked() (1, 0; if not: all others).",
            Sentences.town("mmmmmm g01 g12 g13 g24 g34"), "needs(0, 4) = 2, asked 1", "needs(0, 2) = 2, asked 1",
            "needs(1, 4) = 0, asked 1", "needs(0, 1) = 0, asked 1", "needs(0, 5) = 30, asked 0",
            "needs(5, 2) = 27, asked 0", "sign(4, 5) = 6", "needs(0, 5) = 18, asked 1")
            .says("BAD: also the same.", Sentences.town("mmm"), "needs(0, 3) = BAD", "needs(-1, 0) = BAD",
                "needs(2, 2) = BAD");
    }

    private static void crews() {
        new Sentences(23).says("The largest CREW: PERSONS each of whom TELLS each other one; which by asked() (bits; the "
                + "least of as large ones).",
            Sentences.dealt("ppppmp", 0, 1, 1, 0, 1, 2), "crew() = 2, asked 6", "sign(4, 1) = 1", "crew() = 2, asked 6",
            "sign(4, 2) = 2", "crew() = 3, asked 22")
            .also(Sentences.town("mm"), "crew() = 1, asked 1")
            .says("STATE: no PERSONS.", States::bare, "crew() = STATE");
        new Sentences(24).says("PERSONS (bits) to whom an ORDER goes now from one (itself, too).",
            Sentences.dealt("pdmp g23", 0, 3, 3, 1), "reach(0) = 15", "reach(1) = 15", "reach(2) = 12", "reach(3) = 12",
            "undo(0) = 1", "reach(2) = 15")
            .says("BAD.", Sentences.town("p"), "reach(0) = 1", "reach(1) = BAD", "reach(-1) = BAD");
        new Sentences(25).says("The PERSON from whom orders go to most (the first); how many these are (itself aside) by "
                + "asked().",
            Sentences.dealt("mmpp", 1, 1, 1, 2), "crier() = 2, asked 2", "sign(3, 2) = 1", "crier() = 2, asked 3",
            "sign(0, 3) = 2", "crier() = 0, asked 3")
            .says("STATE: no PERSONS.", States::bare, "crier() = STATE");
    }

    private static void signs() {
        new Sentences(26).says("The fewest SIGNS more, none between the two themselves, by which an ORDER goes whatever "
                + "is dealt (by which houses agree; NOON or not as it is now): 0, 1 or 2; how many PERSONS orders of "
                + "the first one reach by asked(), whatever is dealt, with no SIGN more (itself aside).",
            Sentences.town("ppp"), "signs(0, 2) = 2, asked 0", "sign(0, 1) = 1", "signs(0, 2) = 1, asked 1",
            "sign(1, 2) = 2", "signs(0, 2) = 0, asked 2")
            .also(Sentences.town("ppp a02"), "signs(0, 2) = 0, asked 1", "signs(0, 1) = 1, asked 1")
            .also(Sentences.town("lp"), "signs(0, 1) = NONE, asked 0", "noon() = 0", "signs(0, 1) = 0, asked 1",
                "signs(1, 0) = 0, asked 1")
            .also(Sentences.town("ms a01"), "signs(0, 1) = NONE, asked 0", "signs(1, 0) = NONE, asked 0")
            .says("NONE: by none (asked() likewise).",
                Sentences.town("pp"), "signs(0, 1) = NONE, asked 0", "sign(0, 1) = 1", "signs(0, 1) = 0, asked 1")
            .says("BAD: also the same.", Sentences.town("ppp"), "signs(0, 3) = BAD", "signs(-1, 0) = BAD",
                "signs(1, 1) = BAD");
    }

    private static void chances() {
        new Sentences(27).says("Chances that an ORDER goes by n MOUTHS at most (0 .. 4), all deals by which houses agree "
                + "alike likely (NOON or not as it is now), told by upper(), lower(): 1.",
            Sentences.town("ppd"), "odds(0, 1, 0) = 1, 1 by 4", "odds(0, 2, 0) = 1, 1 by 2", "odds(0, 1, 1) = 1, 3 by 8",
            "odds(0, 1, 4) = 1, 3 by 8")
            .also(Sentences.town("ppp a12"), "odds(0, 1, 4) = 1, 1 by 4", "odds(1, 2, 0) = 1, 1 by 1")
            .also(Sentences.town("ps"), "odds(0, 1, 0) = 1, 0 by 1", "odds(1, 0, 4) = 1, 0 by 1", "noon() = 0",
                "odds(0, 1, 0) = 1, 1 by 4", "odds(1, 0, 4) = 1, 0 by 1")
            .says("BAD: also the same.", Sentences.town("ppp"), "odds(0, 3, 0) = BAD", "odds(-1, 0, 0) = BAD",
                "odds(1, 1, 0) = BAD", "odds(0, 1, 5) = BAD", "odds(0, 1, -1) = BAD");
        new Sentences(28).says("What part of an ORDER that goes now is owed to a MOUTH: of all orders in which MOUTHS "
                + "(all others than its ends) can come one by one, those in which it goes from that one on, and did "
                + "not ahead of it, told by upper(), lower(): 1.",
            Sentences.town("mmmmm g01 g14 g02 g23 g34"), "part(0, 4, 1) = 1, 2 by 3", "part(0, 4, 2) = 1, 1 by 6",
            "part(0, 4, 3) = 1, 1 by 6")
            .also(Sentences.town("mmm g01 g12"), "part(0, 2, 1) = 1, 1 by 1")
            .also(Sentences.town("mmmm g01 g12"), "part(0, 2, 1) = 1, 1 by 1", "part(0, 2, 3) = 1, 0 by 1")
            .says("BAD: also an end of it; STATE: it goes at once, or not at all.",
                Sentences.town("mmmm g01 g12"), "part(0, 4, 1) = BAD", "part(0, 2, 4) = BAD", "part(0, 2, -1) = BAD",
                "part(0, 0, 1) = BAD", "part(0, 2, 0) = BAD", "part(0, 2, 2) = BAD", "part(0, 1, 1) = BAD",
                "part(0, 1, 2) = STATE", "part(0, 3, 1) = STATE");
    }
}
