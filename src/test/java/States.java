/** Where the runs of boundary cases begin. In all but bare(): ROW 0 is full, ROW 1 empty, ROW 3 a deal
 * for six, ROW 4 two mornings of six, ROWS 2 and 5 are missing; TEXT 0 is a town's, TEXT 1 full and
 * none, TEXT 2 empty, TEXT 3 missing; what is told is none of what is told at first. */
final class States {
    private States() {
    }

    static TonguesDealt bare() {
        return new TonguesDealt();
    }

    private static TonguesDealt stuffed(String town) {
        TonguesDealt x = new TonguesDealt();
        x.row(0, 40);
        for (int i = 0; i < 40; i++) x.lay(0, i, i * 1000003 - 77);
        x.row(1, 0);
        Check.layRow(x, 3, 1, 2, 3, 1, 0, 2);
        Check.layRow(x, 4, 1, 2, 3, 1, 0, 2, 3, 3, 0, 3, 1, 0);
        Check.write(x, 0, town);
        x.text(1, 60);
        for (int i = 0; i < 60; i++) x.put(1, i, 2 * i - 128);
        x.text(2, 0);
        x.mean(1);
        return x;
    }

    /** Rows and texts, but nobody. */
    static TonguesDealt nobody() {
        return askedLast(stuffed("pp"));
    }

    private static TonguesDealt askedLast(TonguesDealt x) {
        x.at(0, 7);
        return x;
    }

    static Edge.State town(String text) {
        return () -> {
            TonguesDealt x = stuffed(text);
            Check.holds("a town by '" + text + "'", x.town(0) > 0);
            x.calls(1);
            return askedLast(x);
        };
    }

    /** One person alone. */
    static TonguesDealt one() {
        return town("p").made();
    }

    static TonguesDealt two() {
        return town("pp").made();
    }

    /** All kinds, on MORNING 1 ahead of NOON: DEALT is 1 2 3 1 0 2; kept: one deed in 0, three in 2. */
    static TonguesDealt six() {
        TonguesDealt x = stuffed("plmdst a03 g25");
        x.town(0);
        x.deal(3);
        x.noon();
        x.sign(0, 4);
        x.keep(2);
        x.undo(1);
        x.keep(0);
        x.odds(0, 1, 2);
        return askedLast(x);
    }

    static TonguesDealt sixNoon() {
        TonguesDealt x = six();
        x.noon();
        return x;
    }

    private static TonguesDealt dealtTo(TonguesDealt x, int deeds) {
        for (int i = x.count(4); i < deeds; i++) x.deal(3);
        return x;
    }

    /** One deed less than there may be, ahead of NOON. */
    static TonguesDealt sixAlmostFull() {
        return dealtTo(six(), 39);
    }

    static TonguesDealt sixFull() {
        return dealtTo(six(), 40);
    }

    /** As many deeds as there may be, the last one a NOON. */
    static TonguesDealt sixFullNoon() {
        TonguesDealt x = sixAlmostFull();
        x.noon();
        return x;
    }

    /** One person with as many deeds as there may be. */
    static TonguesDealt oneFull() {
        TonguesDealt x = one();
        x.row(2, 1);
        for (int i = 0; i < 40; i++) x.deal(2);
        x.tear(2);
        return x;
    }
}
