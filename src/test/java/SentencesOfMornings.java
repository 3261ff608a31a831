/** Promises 29 to 41. */
final class SentencesOfMornings {
    private SentencesOfMornings() {
    }

    static void run() {
        mornings();
        rules();
        broken();
        shouts();
        lots();
        told();
        counted();
        digest();
    }

    private static void refusedMornings(Sentences s, String sentence, String call) {
        String with = call + " = ";
        s.says(sentence,
            States::bare, call.replace("(0", "(6") + " = BAD", call.replace("(0", "(-1") + " = BAD", with + "STATE",
            "text 0: ppp a01", "town(0) = 3", with + "NOTHING", "row 0: 0 0 0 0", with + "SIZE", "row 0: 0 0",
            with + "SIZE", "row 0: 0 0 4", with + "UNLIKE", "row 0: 0 0 -1", with + "UNLIKE");
        s.says("(In this order.)",
            States::bare, call.replace("(0", "(6") + " = BAD", with + "STATE", "row 0: 9 9", with + "STATE",
            "text 0: ppp a01", "town(0) = 3", with + "SIZE", "row 0: 0 1 9", with + "UNLIKE", "tear(0) = 1",
            with + "NOTHING");
    }

    private static void mornings() {
        Sentences s = new Sentences(29);
        s.says("How many pairs of PERSONS were dealt alike each morning of a ROW; PERSONS who are in one of these by "
                + "asked() (bits).",
            Sentences.town("pppp"), "row 0: 1 1 1 2", "houses(0) = 3, asked 7", "row 0: 1 1 1 2 0 3 0 3",
            "houses(0) = 1, asked 5", "row 0: 1 1 2 2 0 0 3 3", "houses(0) = 2, asked 15", "row 0: 0 1 2 3",
            "houses(0) = 0, asked 0", "row(0, 40) = 40", "houses(0) = 6, asked 15")
            .also(Sentences.town("p"), "row 0: 1 2", "houses(0) = 0, asked 0");
        refusedMornings(s, "BAD; STATE: no PERSONS; NOTHING; SIZE; UNLIKE: no TONGUE.", "houses(0)");
    }

    private static void rules() {
        Sentences s = new Sentences(30);
        s.says("PERSONS (bits) whose TONGUE goes by a RULE (0 .. 3): 0 it stays, 1 it turns by one each morning (behind "
                + "3: 0), 2 it is never as it was the morning before, 3 none comes again.",
            Sentences.town("pppppp"), "row 0: 1 2 0 0 3 0 1 3 1 1 1 0 1 0 0 2 0 1", "rule(0, 0) = 1", "rule(0, 1) = 10",
            "rule(0, 2) = 30", "rule(0, 3) = 26")
            .also(Sentences.town("p"), "row 0: 2 3 0 1", "rule(0, 1) = 1", "rule(0, 3) = 1", "row 0: 2 3 0 1 2",
                "rule(0, 1) = 1", "rule(0, 2) = 1", "rule(0, 3) = 0", "row 0: 3", "rule(0, 0) = 1", "rule(0, 1) = 1",
                "rule(0, 2) = 1", "rule(0, 3) = 1", "rule(0, 4) = BAD", "rule(0, -1) = BAD");
        refusedMornings(s, "BAD; STATE; NOTHING; SIZE; UNLIKE.", "rule(0, 3)");
    }

    private static void broken() {
        Sentences s = new Sentences(31);
        s.says("Whether a ROW of mornings can have been dealt here: its first morning by which a house does not agree; "
                + "NONE: there is none.",
            Sentences.town("ppp a20"), "row 0: 1 2 1 3 3 3", "broken(0) = NONE", "row 0: 1 2 1 3 3 0 1 2 3",
            "broken(0) = 1", "row 0: 1 2 2 3 3 0", "broken(0) = 0", "row(0, 0) = 0", "broken(0) = NONE")
            .also(Sentences.town("ppp"), "row 0: 0 1 2 2 1 0", "broken(0) = NONE");
        refusedMornings(s, "BAD; STATE; NOTHING; SIZE; UNLIKE.", "broken(0)");
    }

    private static void shouts() {
        new Sentences(32).says("TONGUES (bits) in which it can have been shouted, if just a set of PERSONS understood "
                + "(KNOW it, SILENT ones ahead of NOON aside).",
            Sentences.dealt("psmd", 1, 1, 1, 0), "shouted(13) = 2", "shouted(15) = 0", "shouted(8) = 1",
            "shouted(0) = 12", "shouted(1) = 0", "noon() = 0", "shouted(15) = 2", "shouted(13) = 0", "shouted(8) = 1")
            .says("BAD: also a set that is none.",
                Sentences.town("pp"), "shouted(3) = 1", "shouted(4) = BAD", "shouted(-1) = BAD", "shouted(MIN) = BAD")
            .also(States::bare, "shouted(0) = 15", "shouted(1) = BAD");
        new Sentences(33).says("How many deals (by which houses agree) there are by which a shout in each of n (0 .. 4) "
                + "TONGUES 0 .. n less 1 is understood by just the sets in a ROW (as many), ahead of NOON, told by "
                + "upper() (lower() is 1): 1.",
            Sentences.town("lp"), "row(0, 0) = 0", "calls(0) = 1, 16 by 1", "row 0: 1", "calls(0) = 1, 3 by 1",
            "row 0: 0", "calls(0) = 1, 9 by 1", "row 0: 1 2", "calls(0) = 1, 1 by 1", "row 0: 0 0 0 3",
            "calls(0) = 1, 1 by 1", "row 0: 1 1", "calls(0) = 1, 0 by 1", "noon() = 0", "row 0: 1",
            "calls(0) = 1, 3 by 1")
            .also(Sentences.town("ppd a01"), "row 0: 7", "calls(0) = 1, 2 by 1", "row 0: 3", "calls(0) = 1, 2 by 1",
                "row 0: 1", "calls(0) = 1, 0 by 1", "row 0: 4 4", "calls(0) = 1, 2 by 1")
            .also(Sentences.town("ps"), "row 0: 1", "calls(0) = 1, 4 by 1", "row 0: 3", "calls(0) = 1, 0 by 1")
            .says("BAD; STATE: no PERSONS; NOTHING; SIZE: more than 4; UNLIKE: a set that is none.",
                States::bare, "calls(6) = BAD", "calls(-1) = BAD", "calls(0) = STATE", "text 0: pp", "town(0) = 2",
                "calls(0) = NOTHING", "row 0: 0 0 0 0 0", "calls(0) = SIZE", "row 0: 0 0 0 4", "calls(0) = UNLIKE",
                "row 0: -1", "calls(0) = UNLIKE")
            .says("(In this order.)",
                States::bare, "calls(6) = BAD", "row 0: 9 9 9 9 9", "calls(0) = STATE", "text 0: pp", "town(0) = 2",
                "calls(0) = SIZE", "row 0: 9 9 9 9", "calls(0) = UNLIKE");
    }

    /** Of seed 1 the numbers are 48271, 182605794, 1291394886, 1914720637, ..: by 8, modulo 4: 1, 0, 0, 3. */
    private static void lots() {
        new Sentences(34).says("n (1 .. 20) MORNINGS truly by LOTS of a seed: a number comes from the one ahead by 48271 "
                + "times it modulo 2147483647, the first from the seed (1 .. 2147483646): for each PERSON that is not "
                + "dealt as one of a lesser number a number: it by 8, cut, modulo 4 is what it is DEALT: on how many "
                + "the first one's orders go to the last one, ahead of NOON.",
            Sentences.town("pp"), "lots(2, 1) = 0", "count(1) = 2", "person(0, 1) = 1, asked 0",
            "person(1, 1) = 1, asked 3", "undo(1) = 1", "person(0, 1) = 1, asked 1", "person(1, 1) = 1, asked 0",
            "lots(20, 2147483646) = 5", "count(4) = 21", "count(2) = 0")
            .also(Sentences.town("pppp a02 a13"), "lots(2, 1) = 0", "person(0, 1) = 1, asked 0",
                "person(2, 1) = 1, asked 0", "person(1, 1) = 1, asked 3", "person(3, 1) = 1, asked 3")
            .also(Sentences.town("pp g01"), "noon() = 0", "lots(3, 7) = 3", "count(2) = 0", "count(1) = 3")
            .also(Sentences.town("pss a02"), "lots(5, 3) = 0")
            .says("BAD; STATE: fewer than two PERSONS; FULL: with n more there would be more than 40 DEEDS.",
                States::bare, "lots(0, 1) = BAD", "lots(21, 1) = BAD", "lots(1, 0) = BAD", "lots(1, MAX) = BAD",
                "lots(1, -1) = BAD", "lots(1, 1) = STATE", "text 0: p", "town(0) = 1", "lots(1, 1) = STATE",
                "text 0: pp g01", "town(0) = 2", "lots(20, 1) = 20", "lots(1, 2147483646) = 1", "lots(20, 1) = FULL",
                "lots(19, 1) = 19", "lots(1, 1) = FULL")
            .says("(FULL last.)", States::oneFull, "lots(1, 1) = STATE", "lots(0, 1) = BAD");
    }

    private static void told() {
        new Sentences(35).says("What the latest lay(), at(), mean(), person(), needs(), crew(), crier(), signs(), houses() "
                + "that was not refused told; 0 before.",
            States::bare, "asked() = 0", "row 0: 5 6", "lay(0, 0, 7) = 1", "asked() = 5", "at(0, 1) = 1", "asked() = 6",
            "at(0, 2) = BEYOND", "asked() = 6", "lay(0, 1, 9) = 1", "mean(0) = 1", "asked() = 8", "text 0: plm g02",
            "town(0) = 3", "asked() = 8", "person(2, 0) = 1", "asked() = 2", "person(3, 0) = BAD", "asked() = 2",
            "needs(0, 2) = 0", "asked() = 1", "crew() = 2", "asked() = 3", "crier() = 0", "asked() = 2",
            "signs(0, 2) = 0", "asked() = 1", "row 0: 1 1 0", "houses(0) = 1", "asked() = 3", "reach(0) = 7",
            "odds(0, 1, 0) = 1", "tells(0, 1) = 1", "asked() = 3", "houses(1) = NOTHING", "asked() = 3");
        new Sentences(36).says("The upper number that was told last; 0 before.",
            States::bare, "upper() = 0", "text 0: mmmm g01 g13 g02 g23", "town(0) = 4", "part(0, 3, 1) = 1",
            "upper() = 1", "row(0, 0) = 0", "calls(0) = 1", "upper() = 256", "odds(0, 3, 0) = 1", "upper() = 0",
            "part(0, 3, 2) = 1", "upper() = 1", "part(0, 1, 2) = STATE", "upper() = 1");
        new Sentences(37).says("Its lower number; 1 before.",
            States::bare, "lower() = 1", "text 0: mmmm g01 g13 g02 g23", "town(0) = 4", "part(0, 3, 1) = 1",
            "lower() = 2", "row(0, 0) = 0", "calls(0) = 1", "lower() = 1", "part(0, 3, 2) = 1", "lower() = 2",
            "part(0, 1, 2) = STATE", "lower() = 2");
    }

    private static void counted() {
        new Sentences(38).says("0 PERSONS, 1 the MORNING, 2 whether it is behind NOON (1, 0), 3 SIGNS, 4 DEEDS, 5 LEARNERS "
                + "(DOUBLE ones, too), 6 ROWS, 7 TEXTS that are there, 8 kept TOWNS.",
            Sentences.dealt("pldds g01 g12", 1, 1, 1, 1, 1), "noon() = 0", "sign(0, 4) = 3", "keep(0) = 3", "keep(2) = 3",
            "row(0, 0) = 0", "text(3, 0) = 0", "count(0) = 5", "count(1) = 1", "count(2) = 1", "count(3) = 3",
            "count(4) = 3", "count(5) = 3", "count(6) = 2", "count(7) = 2", "count(8) = 2", "tear(5) = 1",
            "count(6) = 1")
            .says("BAD.", States::bare, "count(9) = BAD", "count(-1) = BAD");
        new Sentences(39).says("The latest FINDING (0 before any).",
            States::bare, "finding() = 0", "row(0, 41) = BAD", "finding() = 0", "tear(0) = -3", "finding() = 1",
            "row(0, -1) = -3", "finding() = 5", "row(0, 0) = 0", "finding() = 5", "mean(0) = -3", "finding() = 4");
        new Sentences(40).says("How often a FINDING (1 .. 5) was answered.",
            States::bare, "findings(1) = 0", "tear(0) = -3", "tear(1) = -3", "row(0, -1) = -3", "findings(1) = 2",
            "findings(2) = 0", "findings(3) = 0", "findings(4) = 0", "findings(5) = 1", "tear(6) = BAD",
            "findings(1) = 2")
            .says("BAD.", States::bare, "findings(0) = BAD", "findings(6) = BAD", "findings(-1) = BAD");
    }

    private static long mixed(int... all) {
        long h = 17;
        for (int v : all) h = 31 * h + v;
        return h;
    }

    private static void digest() {
        Sentences s = new Sentences(41);
        s.says("h = 17; then h = 31 h + v for each v: count() 0 to 8; of each PERSON person() 0 to 4; of each kept TOWN "
            + "how many DEEDS (-1: missing); of each ROW its size (-1: missing) and places, of each TEXT likewise.",
            States::bare);
        Check.due("promise 41, digest() of a new object", new TonguesDealt().digest(),
            mixed(0, 0, 0, 0, 0, 0, 0, 0, 0, -1, -1, -1, -1, -1, -1, -1, -1, -1, -1, -1, -1, -1));
        TonguesDealt x = Check.dealt("dp g01", 3, 1);
        x.keep(1);
        x.noon();
        x.row(2, 0);
        x.text(2, 1);
        x.put(2, 0, 200);
        Check.due("promise 41, digest() of a town", x.digest(),
            mixed(2, 1, 1, 1, 2, 1, 2, 2, 1, 3, 3, 11, 1, 2, 0, 1, 2, 2, 1, -1, 1, -1, -1, -1, 0, -1, -1, 2, 3, 1,
                6, 'd', 'p', ' ', 'g', '0', '1', -1, 1, -56, -1));
    }
}
