/** Promises 1 to 13. */
final class SentencesOfRows {
    private SentencesOfRows() {
    }

    static void run() {
        begun();
        rows();
        copies();
        texts();
        towns();
        persons();
        marks();
    }

    private static void begun() {
        new Sentences(1).says("No ROWS, TEXTS, PERSONS.",
            States::bare, "count(6) = 0", "count(7) = 0", "count(0) = 0", "at(0, 0) = NOTHING", "fault(0) = NOTHING",
            "person(0, 0) = BAD", "tear(5) = NOTHING", "crew() = STATE");
    }

    private static void rows() {
        new Sentences(2).says("A ROW is there with n ints 0: n.",
            States::bare, "row(2, 3) = 3", "count(6) = 1", "at(2, 0) = 1, asked 0", "at(2, 2) = 1, asked 0",
            "at(2, 3) = BEYOND", "lay(2, 1, 9) = 1", "row(2, 5) = 5", "at(2, 1) = 1, asked 0", "at(2, 4) = 1, asked 0",
            "count(6) = 1", "row(3, 0) = 0", "count(6) = 2", "at(3, 0) = BEYOND")
            .says("BAD: also n above 40; SIZE: below 0.",
                States::bare, "row(0, 40) = 40", "row(0, 41) = BAD", "row(6, 0) = BAD", "row(-1, 0) = BAD",
                "row(0, -1) = SIZE", "row(6, -1) = BAD", "row(6, 41) = BAD", "at(0, 39) = 1, asked 0");
        new Sentences(3).says("Place i of a ROW is v: what it was, told by asked(): 1.",
            States::bare, "row(1, 2) = 2", "lay(1, 1, 7) = 1, asked 0", "lay(1, 1, -8) = 1, asked 7",
            "at(1, 1) = 1, asked -8", "at(1, 0) = 1, asked 0")
            .says("BAD; NOTHING; BEYOND.",
                States::bare, "row(1, 2) = 2", "lay(6, 9, 1) = BAD", "lay(-1, 0, 1) = BAD", "lay(0, 9, 1) = NOTHING",
                "lay(1, 2, 1) = BEYOND", "lay(1, -1, 1) = BEYOND");
        new Sentences(4).says("Place i of a ROW, told by asked(): 1.",
            States::bare, "row 4: 3 -4 5", "at(4, 0) = 1, asked 3", "at(4, 1) = 1, asked -4", "at(4, 2) = 1, asked 5")
            .says("BAD; NOTHING; BEYOND.",
                States::bare, "row 4: 3", "at(6, 1) = BAD", "at(-1, 0) = BAD", "at(5, 1) = NOTHING", "at(4, 1) = BEYOND",
                "at(4, -1) = BEYOND");
        new Sentences(5).says("A ROW is missing: 1.",
            States::bare, "row 4: 3", "tear(4) = 1", "at(4, 0) = NOTHING", "count(6) = 0", "row(4, 1) = 1",
            "at(4, 0) = 1, asked 0")
            .says("BAD; NOTHING.", States::bare, "tear(6) = BAD", "tear(-1) = BAD", "tear(0) = NOTHING");
    }

    private static void copies() {
        new Sentences(6).says("n places of a ROW, from one on, come to those of another one (perhaps itself) from one "
                + "on, as if taken ahead: 1.",
            States::bare, "row 0: 1 2 3 4 5", "row 1: 9 9 9", "copy(0, 1, 1, 0, 2) = 1", "at(1, 0) = 1, asked 2",
            "at(1, 1) = 1, asked 3", "at(1, 2) = 1, asked 9", "at(0, 1) = 1, asked 2", "copy(0, 0, 0, 1, 4) = 1",
            "at(0, 0) = 1, asked 1", "at(0, 1) = 1, asked 1", "at(0, 2) = 1, asked 2", "at(0, 4) = 1, asked 4",
            "copy(0, 1, 0, 0, 4) = 1", "at(0, 0) = 1, asked 1", "at(0, 1) = 1, asked 2", "at(0, 3) = 1, asked 4",
            "at(0, 4) = 1, asked 4", "copy(0, 0, 1, 0, 0) = 1", "at(1, 0) = 1, asked 2")
            .says("BAD; SIZE: n below 0; NOTHING: either; BEYOND: not so many there.",
                States::bare, "row 0: 1 2", "copy(6, 0, 0, 0, -1) = BAD", "copy(0, 0, -1, 0, -1) = BAD",
                "copy(1, 0, 0, 0, -1) = SIZE", "copy(1, 9, 0, 9, 1) = NOTHING", "copy(0, 9, 1, 9, 1) = NOTHING",
                "copy(0, 1, 0, 0, 2) = BEYOND", "copy(0, 0, 0, 1, 2) = BEYOND", "copy(0, -1, 0, 0, 1) = BEYOND",
                "copy(0, 0, 0, -1, 1) = BEYOND", "copy(0, MAX, 0, 0, MAX) = BEYOND", "copy(0, 0, 0, 0, 2) = 1");
        new Sentences(7).says("The mean of a ROW's ints, cut, told by asked(): 1.",
            States::bare, "row 0: 1 2 4", "mean(0) = 1, asked 2", "row 0: -1 -2 -4", "mean(0) = 1, asked -2",
            "row 0: MAX MAX MAX", "mean(0) = 1, asked MAX", "row 0: MIN MIN", "mean(0) = 1, asked MIN", "row 0: -1 0",
            "mean(0) = 1, asked 0")
            .says("BAD; NOTHING; NOUGHT.",
                States::bare, "mean(6) = BAD", "mean(-1) = BAD", "mean(0) = NOTHING", "row(0, 0) = 0",
                "mean(0) = NOUGHT");
    }

    private static void texts() {
        new Sentences(8).says("A TEXT is there with n blanks: n.",
            States::bare, "text(3, 2) = 2", "count(7) = 1", "put(3, 0, 1) = 1032", "put(3, 1, 1) = 1032",
            "put(3, 2, 1) = BEYOND", "text(3, 1) = 1", "put(3, 0, 1) = 1032", "put(3, 1, 1) = BEYOND", "count(7) = 1")
            .says("BAD: also n above 60; SIZE: below 0.",
                States::bare, "text(0, 60) = 60", "text(0, 61) = BAD", "text(4, 0) = BAD", "text(-1, 0) = BAD",
                "text(0, -1) = SIZE", "text(4, -1) = BAD");
        new Sentences(9).says("Byte i of a TEXT is v, cut to a byte: what it was, and 1000 more.",
            States::bare, "text(0, 2) = 2", "put(0, 1, 112) = 1032", "put(0, 1, 256) = 1112", "put(0, 1, 353) = 1000",
            "put(0, 1, -1) = 1097", "put(0, 1, 128) = 999", "put(0, 1, 0) = 872", "put(0, 0, 0) = 1032")
            .says("BAD; NOTHING; BEYOND.",
                States::bare, "text(0, 2) = 2", "put(4, 2, 0) = BAD", "put(-1, 0, 0) = BAD", "put(1, 2, 0) = NOTHING",
                "put(0, 2, 0) = BEYOND", "put(0, -1, 0) = BEYOND");
        new Sentences(10).says("A FAULT of a TEXT; NONE: there is none.",
            States::bare, "text 0: pl a01 g1x", "fault(0) = 9", "put(0, 9, 48) = 1120", "fault(0) = NONE",
            "count(0) = 0")
            .says("BAD; NOTHING.", States::bare, "fault(4) = BAD", "fault(-1) = BAD", "fault(0) = NOTHING");
    }

    private static void towns() {
        new Sentences(11).says("A TOWN by a TEXT (anew: MORNING 0, no DEEDS; kept TOWNS go): how many PERSONS.",
            Sentences.dealt("plm g01", 1, 2, 3), "noon() = 1", "sign(0, 2) = 2", "keep(0) = 3", "text 1: dd",
            "town(1) = 2", "count(0) = 2", "count(1) = 0", "count(2) = 0", "count(3) = 0", "count(4) = 0",
            "count(8) = 0", "on(0) = NOTHING", "person(0, 1) = 1, asked 0", "person(1, 4) = 1, asked 0", "town(0) = 3",
            "count(3) = 1")
            .says("BAD; NOTHING; STATE: a FAULT.",
                States::bare, "town(4) = BAD", "town(-1) = BAD", "town(0) = NOTHING", "text 0: pp a", "town(0) = STATE",
                "count(0) = 0", "text 0: pp", "town(0) = 2", "text 0: ", "town(0) = STATE", "count(0) = 2")
            .says("(STATE behind NOTHING.)",
                States::bare, "town(3) = NOTHING", "text(3, 0) = 0", "town(3) = STATE");
    }

    private static void persons() {
        new Sentences(12).says("Of a PERSON: 0 the KIND, 1 what it was DEALT, 2 TONGUES that it KNOWS (bits), 3 who is "
                + "dealt as it is (bits, itself, too), 4 who knows a SIGN with it (bits), told by asked(): 1.",
            Sentences.dealt("pdm a02 g01 g12", 3, 2, 3), "person(1, 0) = 1, asked 3", "person(1, 1) = 1, asked 2",
            "person(1, 2) = 1, asked 12", "person(1, 3) = 1, asked 2", "person(1, 4) = 1, asked 5",
            "person(2, 0) = 1, asked 2", "person(2, 1) = 1, asked 3", "person(2, 2) = 1, asked 8",
            "person(2, 3) = 1, asked 5", "person(2, 4) = 1, asked 2", "sign(0, 2) = 3", "person(2, 4) = 1, asked 3")
            .says("BAD.", Sentences.town("pp"), "person(2, 0) = BAD", "person(-1, 0) = BAD", "person(0, 5) = BAD",
                "person(0, -1) = BAD");
    }

    private static void marks() {
        new Sentences(13).says("What a PERSON that IS of a KIND tells: a LEARNER (DOUBLE, too) how many TONGUES more it "
                + "KNOWS from NOON on than ahead of it by this deal, a MUTE one (SILENT, too) how many TELL it now, a "
                + "DOUBLE one how many others KNOW the TONGUE that is 1 more than it was DEALT, a SILENT one how many "
                + "others KNOW a TONGUE that it KNOWS, a TWIN how many TONGUES it KNOWS.",
            Sentences.dealt("ldmstp g35", 1, 0, 1, 1, 3, 1), "mark(0, 1) = 1", "mark(1, 1) = 0", "mark(2, 2) = 4",
            "mark(3, 2) = 1", "mark(1, 3) = 5", "mark(3, 4) = 5", "mark(4, 5) = 2", "noon() = 1", "mark(0, 1) = 1",
            "mark(3, 2) = 4", "mark(2, 2) = 4")
            .says("BAD: also KIND 0; UNLIKE.",
                Sentences.town("lp"), "mark(2, 1) = BAD", "mark(-1, 1) = BAD", "mark(0, 0) = BAD", "mark(0, 6) = BAD",
                "mark(0, -1) = BAD", "mark(0, 3) = UNLIKE", "mark(1, 1) = UNLIKE", "mark(0, 1) = 0");
    }
}
