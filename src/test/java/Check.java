/** What the tests share: comparing answers, and making rows, texts and towns in one line. */
final class Check {
    static final int BAD = -1, FULL = -2, FINDING = -3, STATE = -4, NONE = -9;
    static final int NOTHING = 1, BEYOND = 2, UNLIKE = 3, NOUGHT = 4, SIZE = 5;

    private static int wrong = 0;
    private static int asked = 0;

    private Check() {
    }

    static void due(String call, long got, long want) {
        asked++;
        if (got == want) return;
        wrong++;
        System.out.println(call + " answered " + got + ", due is " + want);
    }

    static void holds(String what, boolean is) {
        due(what, is ? 1 : 0, 1);
    }

    /** An answer that is FINDING, and which. */
    static void finds(TonguesDealt x, String call, long got, int finding) {
        due(call, got, FINDING);
        due("finding() behind " + call, x.finding(), finding);
    }

    /** An answer of 1, and what asked() tells behind it. */
    static void asks(TonguesDealt x, String call, long got, long told) {
        due(call, got, 1);
        due("asked() behind " + call, x.asked(), told);
    }

    static void fraction(TonguesDealt x, String call, long got, long upper, long lower) {
        due(call, got, 1);
        due("upper() behind " + call, x.upper(), upper);
        due("lower() behind " + call, x.lower(), lower);
    }

    static void layRow(TonguesDealt x, int r, int... places) {
        x.row(r, places.length);
        for (int i = 0; i < places.length; i++) x.lay(r, i, places[i]);
    }

    static void dueRow(TonguesDealt x, String what, int r, int... places) {
        for (int i = 0; i < places.length; i++) asks(x, what + " place " + i, x.at(r, i), places[i]);
        finds(x, what + " beyond", x.at(r, places.length), BEYOND);
    }

    static void write(TonguesDealt x, int t, String text) {
        x.text(t, text.length());
        for (int i = 0; i < text.length(); i++) x.put(t, i, text.charAt(i));
    }

    static TonguesDealt town(String text) {
        TonguesDealt x = new TonguesDealt();
        write(x, 0, text);
        holds("a town by '" + text + "'", x.town(0) > 0);
        return x;
    }

    static TonguesDealt dealt(String text, int... tongues) {
        TonguesDealt x = town(text);
        layRow(x, 5, tongues);
        due("deal(5) in '" + text + "'", x.deal(5), 1);
        return x;
    }

    static void end(String test) {
        System.out.println(test + ": " + asked + " answers, " + wrong + " not as due");
        if (wrong != 0) System.exit(1);
    }
}
