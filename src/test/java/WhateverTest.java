/** Promises 26 to 28: whatever is dealt, chances, parts. */
public final class WhateverTest {
    public static void main(String[] args) {
        signs();
        signsRefused();
        odds();
        oddsRefused();
        part();
        partRefused();
        Check.end("WhateverTest");
    }

    private static void signs(TonguesDealt x, int p, int q, int want, int told) {
        Check.due("signs(" + p + ", " + q + ")", x.signs(p, q), want);
        Check.due("asked() behind signs(" + p + ", " + q + ")", x.asked(), told);
    }

    private static void signs() {
        signs(Check.town("pp"), 0, 1, Check.NONE, 0);
        signs(Check.town("pp a01"), 0, 1, 0, 1);
        signs(Check.town("mp a01"), 0, 1, Check.NONE, 0);
        signs(Check.town("pp g01"), 0, 1, 0, 1);
        signs(Check.town("ppp"), 0, 2, 2, 0);
        signs(Check.town("ppp a01"), 0, 2, 1, 1);
        signs(Check.town("ppp g12"), 0, 2, 1, 0);
        signs(Check.town("mmp g01 g12"), 0, 2, 0, 2);
        signs(Check.town("pmp a01 a12"), 1, 2, 1, 0);
        signs(Check.town("mmm a01 a12"), 1, 2, 2, 0);
        signs(Check.town("pmp a01 a12"), 0, 1, 0, 2);
        signs(Check.town("pppp g01 g23"), 0, 3, 1, 1);
        signs(Check.town("pppp g01 g23"), 0, 2, 1, 1);
        TonguesDealt x = Check.town("llpp a23");
        signs(x, 0, 3, 1, 0);
        x.noon();
        signs(x, 0, 3, 0, 3);
        signs(x, 3, 0, 0, 3);
        TonguesDealt y = Check.town("pps a12");
        signs(y, 0, 2, 2, 0);
        y.noon();
        signs(y, 0, 2, 1, 0);
        Check.due("signs agreed behind signs()", y.count(3), 0);
        y.sign(0, 1);
        signs(y, 0, 2, 0, 2);
    }

    private static void signsRefused() {
        TonguesDealt x = Check.town("pp a01");
        x.signs(0, 1);
        Check.due("signs(0, 0)", x.signs(0, 0), Check.BAD);
        Check.due("signs(0, 2)", x.signs(0, 2), Check.BAD);
        Check.due("signs(-1, 0)", x.signs(-1, 0), Check.BAD);
        Check.due("asked() behind refusals", x.asked(), 1);
    }

    private static void odds(TonguesDealt x, int p, int q, int n, int upper, int lower) {
        Check.fraction(x, "odds(" + p + ", " + q + ", " + n + ")", x.odds(p, q, n), upper, lower);
    }

    private static void odds() {
        TonguesDealt x = Check.town("ppp");
        odds(x, 0, 2, 0, 1, 4);
        // a mouth alike to both ends is only there if the ends are alike
        odds(x, 0, 2, 4, 1, 4);
        odds(Check.town("mp"), 0, 1, 0, 0, 1);
        odds(Check.town("pp a01"), 0, 1, 0, 1, 1);
        odds(Check.town("dp"), 0, 1, 0, 1, 2);
        odds(Check.town("dd"), 0, 1, 0, 3, 4);
        odds(Check.town("ppd"), 0, 1, 0, 1, 4);
        // besides: 0 and 1 are neighbours, and the double one is at the lesser of them
        odds(Check.town("ppd"), 0, 1, 1, 3, 8);
        odds(Check.town("ppp g02"), 0, 1, 1, 7, 16);
        TonguesDealt silent = Check.dealt("ps", 1, 2);
        odds(silent, 0, 1, 0, 0, 1);
        silent.noon();
        odds(silent, 0, 1, 0, 1, 4);
        odds(silent, 1, 0, 0, 0, 1);
        Check.asks(silent, "dealt behind odds()", silent.person(1, 1), 2);
        TonguesDealt chain = Check.town("mmmmmm g01 g12 g23 g34 g45");
        for (int n = 0; n < 4; n++) odds(chain, 0, 5, n, 0, 1);
        odds(chain, 0, 5, 4, 1, 1);
    }

    private static void oddsRefused() {
        TonguesDealt x = Check.town("pp");
        x.odds(0, 1, 0);
        Check.due("odds(0, 0, 0)", x.odds(0, 0, 0), Check.BAD);
        Check.due("odds(0, 2, 0)", x.odds(0, 2, 0), Check.BAD);
        Check.due("odds(-1, 1, 0)", x.odds(-1, 1, 0), Check.BAD);
        Check.due("odds(0, 1, -1)", x.odds(0, 1, -1), Check.BAD);
        Check.due("odds(0, 1, 5)", x.odds(0, 1, 5), Check.BAD);
        Check.due("upper() behind refusals", x.upper(), 1);
        Check.due("lower() behind refusals", x.lower(), 4);
    }

    private static void part(TonguesDealt x, int p, int q, int mouth, int upper, int lower) {
        String call = "part(" + p + ", " + q + ", " + mouth + ")";
        Check.fraction(x, call, x.part(p, q, mouth), upper, lower);
    }

    private static void part() {
        TonguesDealt one = Check.town("mmm g01 g12");
        part(one, 0, 2, 1, 1, 1);
        TonguesDealt either = Check.town("mmmm g01 g02 g13 g23");
        part(either, 0, 3, 1, 1, 2);
        part(either, 0, 3, 2, 1, 2);
        TonguesDealt both = Check.town("mmmmm g01 g12 g23");
        part(both, 0, 3, 1, 1, 2);
        part(both, 0, 3, 2, 1, 2);
        part(both, 0, 3, 4, 0, 1);
        // by 1 alone, or by 2 and 3 together
        TonguesDealt mixed = Check.town("mmmmm g01 g14 g02 g23 g34");
        part(mixed, 0, 4, 1, 2, 3);
        part(mixed, 0, 4, 2, 1, 6);
        part(mixed, 0, 4, 3, 1, 6);
        // by 1 and 2, or by 3 and 4
        TonguesDealt four = Check.town("mmmmmm g01 g12 g25 g03 g34 g45");
        for (int m = 1; m < 5; m++) part(four, 0, 5, m, 1, 4);
    }

    private static void partRefused() {
        TonguesDealt x = Check.town("mmmmm g01 g12 g02");
        Check.due("part, it goes at once", x.part(0, 1, 2), Check.STATE);
        Check.due("part, it does not go", x.part(0, 3, 1), Check.STATE);
        Check.due("part(0, 0, 1)", x.part(0, 0, 1), Check.BAD);
        Check.due("part(0, 1, 0)", x.part(0, 1, 0), Check.BAD);
        Check.due("part(0, 1, 1)", x.part(0, 1, 1), Check.BAD);
        Check.due("part(0, 1, 5)", x.part(0, 1, 5), Check.BAD);
        Check.due("part(0, 1, -1)", x.part(0, 1, -1), Check.BAD);
        Check.due("part(5, 1, 2)", x.part(5, 1, 2), Check.BAD);
        Check.due("part(0, -1, 2)", x.part(0, -1, 2), Check.BAD);
        Check.due("upper() behind refusals", x.upper(), 0);
        Check.due("lower() behind refusals", x.lower(), 1);
    }
}
