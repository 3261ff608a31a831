/** Promises 14 to 19: mornings, noons, signs, undone, kept, gone on from. */
public final class DeedsTest {
    public static void main(String[] args) {
        deal();
        dealRefused();
        noon();
        sign();
        full();
        undo();
        keepAndOn();
        keepAndOnRefused();
        Check.end("DeedsTest");
    }

    private static void deal() {
        TonguesDealt x = Check.town("pppp a02 a23");
        Check.due("the morning at first", x.count(1), 0);
        Check.layRow(x, 0, 1, 3, 1, 1);
        Check.due("deal", x.deal(0), 1);
        Check.asks(x, "person(1, 1)", x.person(1, 1), 3);
        Check.asks(x, "person(3, 1)", x.person(3, 1), 1);
        x.noon();
        Check.due("deal again", x.deal(0), 2);
        Check.due("a morning is ahead of noon", x.count(2), 0);
        Check.due("deeds", x.count(4), 3);
        Check.due("the morning", x.count(1), 2);
    }

    private static void dealRefused() {
        TonguesDealt x = new TonguesDealt();
        Check.due("deal(6)", x.deal(6), Check.BAD);
        Check.due("deal(-1)", x.deal(-1), Check.BAD);
        Check.due("deal without persons, row missing", x.deal(0), Check.STATE);
        Check.write(x, 0, "ppp a12");
        x.town(0);
        Check.finds(x, "deal by a missing row", x.deal(0), Check.NOTHING);
        Check.layRow(x, 0, 9, 9);
        Check.finds(x, "deal by too few", x.deal(0), Check.SIZE);
        Check.layRow(x, 0, 0, 0, 0, 9);
        Check.finds(x, "deal by too many", x.deal(0), Check.SIZE);
        Check.layRow(x, 0, 0, 0, 4);
        Check.finds(x, "deal of 4", x.deal(0), Check.UNLIKE);
        Check.layRow(x, 0, -1, 0, 0);
        Check.finds(x, "deal of -1", x.deal(0), Check.UNLIKE);
        Check.layRow(x, 0, 0, 1, 2);
        Check.finds(x, "deal of an unlike house", x.deal(0), Check.UNLIKE);
        Check.layRow(x, 0, 4, 4, 4);
        Check.finds(x, "deal of 4, house alike", x.deal(0), Check.UNLIKE);
        Check.due("deeds behind refusals", x.count(4), 0);
        Check.due("morning behind refusals", x.count(1), 0);
    }

    private static void noon() {
        Check.due("noon without persons", new TonguesDealt().noon(), Check.STATE);
        TonguesDealt x = Check.dealt("lldpld", 0, 1, 1, 2, 2, 3);
        Check.due("noon", x.noon(), 2);
        Check.due("behind noon", x.count(2), 1);
        Check.due("deeds", x.count(4), 2);
        Check.due("noon again", x.noon(), Check.STATE);
        Check.due("deeds behind a refusal", x.count(4), 2);
        Check.due("noon of learners that learn nothing", Check.town("lll").noon(), 0);
    }

    private static void sign() {
        TonguesDealt x = Check.dealt("mmp g01", 0, 1, 2);
        Check.due("sign(2, 1)", x.sign(2, 1), 2);
        Check.asks(x, "person(1, 4)", x.person(1, 4), 5);
        Check.asks(x, "person(2, 4)", x.person(2, 4), 2);
        Check.due("signs", x.count(3), 2);
        Check.due("deeds", x.count(4), 2);
        Check.due("sign(1, 2)", x.sign(1, 2), Check.STATE);
        Check.due("sign(1, 0), by the text", x.sign(1, 0), Check.STATE);
        Check.due("sign(1, 1)", x.sign(1, 1), Check.BAD);
        Check.due("sign(0, 3)", x.sign(0, 3), Check.BAD);
        Check.due("sign(-1, 0)", x.sign(-1, 0), Check.BAD);
        Check.due("sign without persons", new TonguesDealt().sign(0, 1), Check.BAD);
        Check.due("signs behind refusals", x.count(3), 2);
        Check.layRow(x, 0, 3, 3, 3);
        x.deal(0);
        Check.due("signs stay over mornings", x.count(3), 2);
    }

    private static void full() {
        TonguesDealt x = Check.town("ppp");
        Check.layRow(x, 0, 1, 1, 2);
        for (int i = 1; i <= 39; i++) Check.due("deal " + i, x.deal(0), i);
        Check.due("the 40th deed", x.sign(0, 1), 1);
        Check.due("a 41st morning", x.deal(0), Check.FULL);
        Check.due("a 41st noon", x.noon(), Check.FULL);
        Check.due("a 41st sign", x.sign(0, 2), Check.FULL);
        Check.due("a sign known already, FULL last", x.sign(1, 0), Check.STATE);
        Check.due("lots, FULL", x.lots(1, 1), Check.FULL);
        Check.layRow(x, 1, 1, 1, 4);
        Check.finds(x, "a deal that is none, FULL last", x.deal(1), Check.UNLIKE);
        Check.due("deeds", x.count(4), 40);
        Check.due("undo(39)", x.undo(39), 1);
        Check.due("the 40th deed again", x.noon(), 0);
        Check.due("noon again, FULL last", x.noon(), Check.STATE);
    }

    private static void undo() {
        TonguesDealt x = Check.dealt("lp", 1, 2);
        x.noon();
        x.sign(0, 1);
        Check.layRow(x, 0, 3, 3);
        x.deal(0);
        Check.due("undo(5)", x.undo(5), Check.BAD);
        Check.due("undo(-1)", x.undo(-1), Check.BAD);
        Check.due("undo(4)", x.undo(4), 0);
        Check.due("undo(3)", x.undo(3), 1);
        Check.due("behind noon again", x.count(2), 1);
        Check.due("the morning again", x.count(1), 1);
        Check.asks(x, "known again", x.person(0, 2), 6);
        Check.due("the sign is there", x.count(3), 1);
        Check.due("undo(1)", x.undo(1), 2);
        Check.due("the sign is gone", x.count(3), 0);
        Check.due("ahead of noon again", x.count(2), 0);
        Check.asks(x, "known ahead of noon", x.person(0, 2), 2);
        Check.due("undo(0)", x.undo(0), 1);
        Check.asks(x, "dealt at first", x.person(1, 1), 0);
        Check.due("undo(0) of none", x.undo(0), 0);
        Check.due("undo(0) without persons", new TonguesDealt().undo(0), 0);
        Check.due("undo(1) without persons", new TonguesDealt().undo(1), Check.BAD);
        TonguesDealt y = Check.town("pp g01");
        y.undo(0);
        Check.due("a sign of the text stays", y.count(3), 1);
    }

    private static void keepAndOn() {
        TonguesDealt x = Check.dealt("lp", 1, 2);
        x.noon();
        Check.due("keep(1)", x.keep(1), 2);
        x.sign(0, 1);
        Check.layRow(x, 0, 3, 3);
        x.deal(0);
        Check.due("keep(2)", x.keep(2), 4);
        Check.due("kept", x.count(8), 2);
        x.undo(0);
        Check.due("kept behind undo()", x.count(8), 2);
        Check.due("on(2)", x.on(2), 4);
        Check.asks(x, "dealt as kept", x.person(1, 1), 3);
        Check.due("signs as kept", x.count(3), 1);
        Check.due("the morning as kept", x.count(1), 2);
        Check.due("on(1)", x.on(1), 2);
        Check.due("behind noon as kept", x.count(2), 1);
        Check.due("signs as kept before", x.count(3), 0);
        x.undo(0);
        Check.due("on(1) again", x.on(1), 2);
        Check.due("undo(1) of what was kept", x.undo(1), 1);
        Check.due("keep(1) over", x.keep(1), 1);
        x.undo(0);
        Check.due("on(1), the later one", x.on(1), 1);
        Check.due("kept in the end", x.count(8), 2);
        x.undo(0);
        x.sign(0, 1);
        x.on(1);
        Check.due("no sign of what was kept", x.count(3), 0);
        Check.asks(x, "the first deed of what was kept", x.person(1, 1), 2);
    }

    private static void keepAndOnRefused() {
        TonguesDealt x = new TonguesDealt();
        Check.due("keep(3)", x.keep(3), Check.BAD);
        Check.due("keep(-1)", x.keep(-1), Check.BAD);
        Check.due("keep(0) without persons", x.keep(0), Check.STATE);
        Check.due("on(3)", x.on(3), Check.BAD);
        Check.due("on(-1)", x.on(-1), Check.BAD);
        Check.finds(x, "on(0)", x.on(0), Check.NOTHING);
        Check.due("kept", x.count(8), 0);
    }
}
