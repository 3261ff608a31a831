/** Promises 29 to 31: rows of mornings. */
public final class MorningsTest {
    public static void main(String[] args) {
        houses();
        rule();
        broken();
        refused();
        Check.end("MorningsTest");
    }

    private static void houses() {
        TonguesDealt x = Check.town("pppp");
        Check.layRow(x, 0, 0, 1, 0, 1, 2, 3, 2, 1);
        Check.due("houses", x.houses(0), 1);
        Check.due("who", x.asked(), 5);
        Check.layRow(x, 0, 0, 0, 0, 1, 2, 2, 2, 2);
        Check.due("houses of three", x.houses(0), 3);
        Check.due("who of three", x.asked(), 7);
        Check.layRow(x, 0, 0, 1, 2, 3);
        Check.due("no houses", x.houses(0), 0);
        Check.due("nobody", x.asked(), 0);
        x.row(0, 0);
        Check.due("houses of no morning", x.houses(0), 6);
        Check.due("everybody", x.asked(), 15);
        x.row(0, 40);
        Check.due("houses of ten mornings", x.houses(0), 6);
        TonguesDealt alone = Check.town("p");
        Check.layRow(alone, 0, 3, 2, 1);
        Check.due("houses of one person", alone.houses(0), 0);
    }

    private static void rules(TonguesDealt x, String what, int stays, int turns, int never, int none) {
        int[] want = {stays, turns, never, none};
        for (int which = 0; which < 4; which++) {
            Check.due("rule(0, " + which + ") of " + what, x.rule(0, which), want[which]);
        }
    }

    private static void rule() {
        TonguesDealt x = Check.town("pppp");
        Check.layRow(x, 0, 2, 3, 0, 0, 2, 0, 1, 2, 2, 1, 0, 1);
        rules(x, "three mornings", 1, 2, 14, 10);
        Check.layRow(x, 0, 1, 2, 3, 0);
        rules(x, "one morning", 15, 15, 15, 15);
        x.row(0, 0);
        rules(x, "no morning", 15, 15, 15, 15);
        TonguesDealt two = Check.town("pp");
        Check.layRow(two, 0, 3, 0, 0, 1, 1, 2, 2, 3, 3, 0);
        rules(two, "five mornings", 0, 3, 3, 0);
        Check.layRow(two, 0, 0, 3, 3, 2);
        rules(two, "turning back", 0, 0, 3, 3);
    }

    private static void broken() {
        TonguesDealt x = Check.town("ppp a02");
        Check.layRow(x, 0, 1, 0, 1, 2, 2, 2, 3, 0, 0, 1, 0, 0);
        Check.due("broken", x.broken(0), 2);
        Check.layRow(x, 0, 1, 0, 0);
        Check.due("broken at first", x.broken(0), 0);
        Check.layRow(x, 0, 1, 0, 1, 3, 2, 3);
        Check.due("not broken", x.broken(0), Check.NONE);
        x.row(0, 0);
        Check.due("no morning", x.broken(0), Check.NONE);
        TonguesDealt chain = Check.town("pppp a01 a12");
        Check.layRow(chain, 0, 1, 1, 1, 0, 1, 1, 2, 0);
        Check.due("broken at the end of a chain", chain.broken(0), 1);
    }

    private static void refused() {
        TonguesDealt x = new TonguesDealt();
        Check.due("houses(6)", x.houses(6), Check.BAD);
        Check.due("houses(-1)", x.houses(-1), Check.BAD);
        Check.due("rule(6, 0)", x.rule(6, 0), Check.BAD);
        Check.due("rule(0, 4)", x.rule(0, 4), Check.BAD);
        Check.due("rule(0, -1)", x.rule(0, -1), Check.BAD);
        Check.due("broken(6)", x.broken(6), Check.BAD);
        Check.due("broken(-1)", x.broken(-1), Check.BAD);
        Check.due("houses without persons", x.houses(0), Check.STATE);
        Check.due("rule without persons", x.rule(0, 0), Check.STATE);
        Check.due("broken without persons", x.broken(0), Check.STATE);
        Check.write(x, 0, "pp");
        x.town(0);
        threeFind(x, "a missing row", Check.NOTHING);
        Check.layRow(x, 0, 0, 4, 0);
        threeFind(x, "not so many times", Check.SIZE);
        Check.layRow(x, 0, 0, 0, 1, 4);
        threeFind(x, "tongue 4", Check.UNLIKE);
        Check.layRow(x, 0, 0, -1);
        threeFind(x, "tongue -1", Check.UNLIKE);
        Check.due("asked() behind refusals", x.asked(), 0);
    }

    private static void threeFind(TonguesDealt x, String what, int finding) {
        Check.finds(x, "houses of " + what, x.houses(0), finding);
        Check.finds(x, "rule of " + what, x.rule(0, 3), finding);
        Check.finds(x, "broken of " + what, x.broken(0), finding);
    }
}
