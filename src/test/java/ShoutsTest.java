/** Promises 32 to 34: shouts, calls, lots. */
public final class ShoutsTest {
    public static void main(String[] args) {
        shouted();
        calls();
        callsRefused();
        lots();
        lotsRefused();
        Check.end("ShoutsTest");
    }

    private static void shouted() {
        TonguesDealt none = new TonguesDealt();
        Check.due("shouted(0) without persons", none.shouted(0), 15);
        Check.due("shouted(1) without persons", none.shouted(1), Check.BAD);
        TonguesDealt x = Check.dealt("pmslp", 0, 0, 0, 1, 2);
        Check.due("a silent one aside", x.shouted(3), 1);
        Check.due("not with the silent one", x.shouted(7), 0);
        Check.due("the learner alone", x.shouted(8), 2);
        Check.due("nobody", x.shouted(0), 8);
        x.noon();
        Check.due("the silent one, too", x.shouted(7), 1);
        Check.due("the learner, too", x.shouted(24), 4);
        TonguesDealt two = Check.dealt("dp", 1, 3);
        Check.due("two tongues", two.shouted(1), 6);
        Check.due("shouted(4)", two.shouted(4), Check.BAD);
        Check.due("shouted(-1)", two.shouted(-1), Check.BAD);
        Check.due("shouted(MIN)", two.shouted(Integer.MIN_VALUE), Check.BAD);
        Check.due("shouted(3)", two.shouted(3), 0);
    }

    private static void calls(TonguesDealt x, String what, int want, int... sets) {
        Check.layRow(x, 1, sets);
        Check.fraction(x, "calls of " + what, x.calls(1), want, 1);
    }

    private static void calls() {
        TonguesDealt x = Check.town("pmp");
        calls(x, "none", 64);
        calls(x, "all in 0", 1, 7);
        calls(x, "nobody in 0", 27, 0);
        calls(x, "one in 0, the others not in 1", 4, 1, 0);
        calls(x, "all four", 1, 1, 2, 4, 0);
        calls(x, "one twice", 0, 1, 1);
        TonguesDealt houses = Check.town("ppp a02");
        calls(houses, "none, with a house", 16);
        calls(houses, "the house in 0", 3, 5);
        calls(houses, "half the house", 0, 1);
        TonguesDealt silent = Check.town("ps");
        calls(silent, "a silent one is free", 4, 1);
        calls(silent, "a silent one never", 0, 2);
        silent.noon();
        calls(silent, "ahead of noon even behind it", 4, 1);
        TonguesDealt kinds = Check.town("dt");
        // the double one has 0 and the twin with it, or it has 3 and the twin 0
        calls(kinds, "a double and a twin", 5, 3);
        TonguesDealt learner = Check.town("lp");
        learner.noon();
        calls(learner, "a learner knows only its own", 1, 1, 2);
        Check.due("still behind noon", learner.count(2), 1);
    }

    private static void callsRefused() {
        TonguesDealt x = new TonguesDealt();
        Check.due("calls(6)", x.calls(6), Check.BAD);
        Check.due("calls(-1)", x.calls(-1), Check.BAD);
        Check.due("calls without persons", x.calls(0), Check.STATE);
        Check.write(x, 0, "pp");
        x.town(0);
        Check.finds(x, "calls of a missing row", x.calls(0), Check.NOTHING);
        Check.layRow(x, 0, 0, 0, 0, 0, 9);
        Check.finds(x, "calls of five", x.calls(0), Check.SIZE);
        Check.layRow(x, 0, 0, 4);
        Check.finds(x, "calls of set 4", x.calls(0), Check.UNLIKE);
        Check.layRow(x, 0, -1);
        Check.finds(x, "calls of set -1", x.calls(0), Check.UNLIKE);
        Check.due("upper() behind refusals", x.upper(), 0);
    }

    private static void lots() {
        TonguesDealt x = Check.town("ppp a02");
        x.noon();
        // by 1: 48271, 182605794; by 8, cut, modulo 4: 1 (6033), 0 (22825724)
        Check.due("lots(1, 1)", x.lots(1, 1), 1);
        Check.due("the morning", x.count(1), 1);
        Check.due("ahead of noon", x.count(2), 0);
        Check.due("deeds", x.count(4), 2);
        Check.asks(x, "dealt to 0", x.person(0, 1), 1);
        Check.asks(x, "dealt to 1", x.person(1, 1), 0);
        Check.asks(x, "dealt to 2", x.person(2, 1), 1);
        // the next ones: 1291394886, 1914720637: 161424360 (0), 239340079 (3)
        x.undo(1);
        Check.due("lots(2, 1)", x.lots(2, 1), 2);
        Check.asks(x, "dealt to 0, the second morning", x.person(0, 1), 0);
        Check.asks(x, "dealt to 1, the second morning", x.person(1, 1), 3);
        Check.due("lots by the greatest seed", x.lots(1, 2147483646), 1);
        // 2147483646 goes on by 2147435376: 268429422 (2)
        Check.asks(x, "dealt by the greatest seed", x.person(0, 1), 2);
        TonguesDealt mute = Check.town("mp");
        Check.due("lots of a mute one", mute.lots(20, 9), 0);
        Check.due("lots of a mute one again", mute.lots(20, 9), 0);
        Check.due("the mornings", mute.count(1), 40);
        TonguesDealt learner = Check.town("ps g01");
        Check.due("lots by a sign", learner.lots(7, 3), 7);
    }

    private static void lotsRefused() {
        TonguesDealt x = Check.town("p");
        Check.due("lots(0, 1)", x.lots(0, 1), Check.BAD);
        Check.due("lots(21, 1)", x.lots(21, 1), Check.BAD);
        Check.due("lots(1, 0)", x.lots(1, 0), Check.BAD);
        Check.due("lots(1, -1)", x.lots(1, -1), Check.BAD);
        Check.due("lots(1, MAX)", x.lots(1, 2147483647), Check.BAD);
        Check.due("lots of one person", x.lots(1, 1), Check.STATE);
        Check.due("lots without persons", new TonguesDealt().lots(1, 1), Check.STATE);
        TonguesDealt y = Check.town("pp");
        y.lots(20, 1);
        y.noon();
        Check.due("lots(20, 1), 41 deeds", y.lots(20, 1), Check.FULL);
        Check.due("deeds behind a refusal", y.count(4), 21);
        Check.holds("lots(19, 1), 40 deeds", y.lots(19, 1) >= 0);
        Check.due("deeds", y.count(4), 40);
    }
}
