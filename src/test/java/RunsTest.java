import java.util.ArrayDeque;
import java.util.Deque;
import java.util.Random;

/** Runs of calls by lots, each answer against the model's; odd arguments come among them. */
public final class RunsTest {
    private static final int RUNS = 500, CALLS = 500;
    private static final int[] ODD = {
        -1, Integer.MIN_VALUE, Integer.MAX_VALUE, -2, 6, 7, 40, 41, 60, 61, 64, 2147483646, 4096, -128, 255};

    private final Random lots;
    private final TonguesDealt x = new TonguesDealt();
    private final Model model = new Model();
    /** How often a wrong number stands where one is wanted: one in so many. */
    private final int oddness;
    private final Deque<String> latest = new ArrayDeque<>();
    private String call = "";
    private long got;
    private long want;

    private RunsTest(long seed) {
        lots = new Random(seed);
        oddness = new int[] {5, 40, 400}[(int) (seed % 3)];
    }

    public static void main(String[] args) {
        for (int run = 0; run < RUNS; run++) {
            if (!new RunsTest(run).goes(run)) break;
        }
        Check.end("RunsTest");
    }

    private boolean goes(int run) {
        for (int c = 0; c < CALLS; c++) {
            oneCall();
            latest.add(call + " = " + got);
            if (latest.size() > 60) latest.remove();
            boolean same = got == want && x.asked() == model.asked() && x.finding() == model.finding()
                && x.upper() == model.upper() && x.lower() == model.lower() && x.digest() == model.digest();
            Check.holds("run " + run + ": " + call + " as the model has it", same);
            if (same) continue;
            System.out.println(String.join("\n", latest) + "\nthe model answers " + want
                + ", asked " + x.asked() + " or " + model.asked() + ", finding " + x.finding() + " or "
                + model.finding() + ", " + x.upper() + " by " + x.lower() + " or " + model.upper() + " by "
                + model.lower() + ", digest " + x.digest() + " or " + model.digest());
            return false;
        }
        return true;
    }

    private int below(int n) {
        return lots.nextInt(oddness) == 0 ? ODD[lots.nextInt(ODD.length)] : lots.nextInt(n);
    }

    private int someone() {
        return below(Math.max(1, x.count(0)));
    }

    private void answers(String told, long byClass, long byModel) {
        call = told;
        got = byClass;
        want = byModel;
    }

    private void oneCall() {
        int which = lots.nextInt(100);
        if (which < 12) rowCalls();
        else if (which < 17) writeText();
        else if (which < 20) writeRow();
        else if (which < 40) townCalls();
        else if (which < 62) orderCalls();
        else if (which < 64) dearCalls();
        else if (which < 84) morningCalls();
        else toldCalls();
    }

    private void rowCalls() {
        int r = below(6);
        int i = below(8);
        int v = lots.nextInt(3) == 0 ? lots.nextInt() : below(4);
        int n = below(12);
        int to = below(6);
        int t = below(4);
        switch (lots.nextInt(8)) {
            case 0: answers("row(" + r + ", " + n + ")", x.row(r, n), model.row(r, n)); break;
            case 1: answers("lay(" + r + ", " + i + ", " + v + ")", x.lay(r, i, v), model.lay(r, i, v)); break;
            case 2: answers("at(" + r + ", " + i + ")", x.at(r, i), model.at(r, i)); break;
            case 3: answers("tear(" + r + ")", x.tear(r), model.tear(r)); break;
            case 4:
                answers("copy(" + r + ", " + i + ", " + to + ", " + n + ", " + v + ")",
                    x.copy(r, i, to, n, v), model.copy(r, i, to, n, v));
                break;
            case 5: answers("mean(" + r + ")", x.mean(r), model.mean(r)); break;
            case 6: answers("text(" + t + ", " + n + ")", x.text(t, n), model.text(t, n)); break;
            default: answers("put(" + t + ", " + i + ", " + v + ")", x.put(t, i, v), model.put(t, i, v)); break;
        }
    }

    /** A text that mostly is a town's, or one place off. */
    private void writeText() {
        StringBuilder s = new StringBuilder();
        int persons = 1 + lots.nextInt(lots.nextInt(12) == 0 ? 7 : 6);
        for (int p = 0; p < persons; p++) {
            if (lots.nextInt(6) == 0) s.append(' ');
            s.append("plmdst".charAt(lots.nextInt(6)));
        }
        for (int ties = lots.nextInt(6); ties > 0; ties--) {
            if (lots.nextInt(2) == 0) s.append(' ');
            int p = lots.nextInt(persons);
            int q = lots.nextInt(10) == 0 ? lots.nextInt(10) : (p + 1 + lots.nextInt(persons)) % persons;
            s.append(lots.nextInt(3) == 0 ? 'a' : 'g').append(p).append(q);
        }
        if (lots.nextInt(4) == 0) s.append("  ");
        if (lots.nextInt(8) == 0) s.setLength(lots.nextInt(s.length() + 1));
        if (lots.nextInt(8) == 0 && s.length() > 0) {
            s.setCharAt(lots.nextInt(s.length()), " plmdstag0123456x\u00f0".charAt(lots.nextInt(18)));
        }
        int t = lots.nextInt(4);
        answers("a text " + s, x.text(t, s.length()), model.text(t, s.length()));
        for (int i = 0; i < s.length(); i++) {
            x.put(t, i, s.charAt(i));
            model.put(t, i, s.charAt(i));
        }
    }

    /** A row that mostly is a deal by which houses agree, or mornings, or sets of persons. */
    private void writeRow() {
        int persons = Math.max(1, x.count(0));
        boolean sets = lots.nextInt(5) == 0;
        int size = sets ? lots.nextInt(5) : persons * (lots.nextInt(2) == 0 ? 1 : lots.nextInt(40 / persons + 1));
        int[] places = new int[size];
        for (int i = 0; i < size; i++) places[i] = sets ? lots.nextInt(1 << persons) : lots.nextInt(4);
        boolean agreeing = x.count(0) > 0 && lots.nextInt(4) > 0;
        for (int i = 0; i < size && !sets && agreeing; i++) {
            x.person(i % persons, 3);
            model.person(i % persons, 3);
            int least = Integer.numberOfTrailingZeros(Math.max(1, x.asked()));
            places[i] = places[i - i % persons + least];
        }
        int r = lots.nextInt(6);
        StringBuilder told = new StringBuilder("row " + r + " anew:");
        answers("", x.row(r, size), model.row(r, size));
        for (int i = 0; i < size; i++) {
            x.lay(r, i, places[i]);
            model.lay(r, i, places[i]);
            told.append(' ').append(places[i]);
        }
        call = told.toString();
    }

    private void townCalls() {
        int t = below(4);
        int r = below(6);
        int p = someone();
        int q = someone();
        int k = below(3);
        switch (lots.nextInt(12)) {
            case 0: answers("fault(" + t + ")", x.fault(t), model.fault(t)); break;
            case 1: answers("town(" + t + ")", x.town(t), model.town(t)); break;
            case 2: answers("person(" + p + ", " + t + ")", x.person(p, t), model.person(p, t)); break;
            case 3: case 4:
                int kind = below(6);
                answers("mark(" + p + ", " + kind + ")", x.mark(p, kind), model.mark(p, kind));
                break;
            case 5: case 6: answers("deal(" + r + ")", x.deal(r), model.deal(r)); break;
            case 7: answers("noon()", x.noon(), model.noon()); break;
            case 8: answers("sign(" + p + ", " + q + ")", x.sign(p, q), model.sign(p, q)); break;
            case 9:
                int n = below(x.count(4) + 2);
                answers("undo(" + n + ")", x.undo(n), model.undo(n));
                break;
            case 10: answers("keep(" + k + ")", x.keep(k), model.keep(k)); break;
            default: answers("on(" + k + ")", x.on(k), model.on(k)); break;
        }
    }

    private void orderCalls() {
        int p = someone();
        int q = someone();
        int r = below(6);
        switch (lots.nextInt(8)) {
            case 0: answers("tells(" + p + ", " + q + ")", x.tells(p, q), model.tells(p, q)); break;
            case 1: answers("order(" + p + ", " + q + ", " + r + ")", x.order(p, q, r), model.order(p, q, r)); break;
            case 2: answers("needs(" + p + ", " + q + ")", x.needs(p, q), model.needs(p, q)); break;
            case 3: answers("crew()", x.crew(), model.crew()); break;
            case 4: answers("reach(" + p + ")", x.reach(p), model.reach(p)); break;
            case 5: answers("crier()", x.crier(), model.crier()); break;
            default:
                int mouth = someone();
                answers("part(" + p + ", " + q + ", " + mouth + ")", x.part(p, q, mouth), model.part(p, q, mouth));
                break;
        }
    }

    private void dearCalls() {
        int p = someone();
        int q = someone();
        int n = below(5);
        switch (lots.nextInt(2)) {
            case 0: answers("signs(" + p + ", " + q + ")", x.signs(p, q), model.signs(p, q)); break;
            default: answers("odds(" + p + ", " + q + ", " + n + ")", x.odds(p, q, n), model.odds(p, q, n)); break;
        }
    }

    private void morningCalls() {
        int r = below(6);
        int which = below(4);
        int n = lots.nextInt(3) == 0 ? below(21) : 1 + below(3);
        int seed = lots.nextInt(9) == 0 ? below(3) : lots.nextInt(2147483646) + 1;
        switch (lots.nextInt(7)) {
            case 0: answers("houses(" + r + ")", x.houses(r), model.houses(r)); break;
            case 1: case 2: answers("rule(" + r + ", " + which + ")", x.rule(r, which), model.rule(r, which)); break;
            case 3: answers("broken(" + r + ")", x.broken(r), model.broken(r)); break;
            case 4:
                int set = below(1 << Math.max(0, x.count(0)));
                if (lots.nextInt(2) == 0) set = heard();
                answers("shouted(" + set + ")", x.shouted(set), model.shouted(set));
                break;
            case 5:
                if (lots.nextInt(4) == 0) answers("calls(" + r + ")", x.calls(r), model.calls(r));
                break;
            default: answers("lots(" + n + ", " + seed + ")", x.lots(n, seed), model.lots(n, seed)); break;
        }
    }

    /** Those who know tongue 1 now, so that shouts are understood by whom they may be. */
    private int heard() {
        int set = 0;
        for (int p = 0; p < x.count(0); p++) {
            x.person(p, 2);
            model.person(p, 2);
            if ((x.asked() & 2) != 0) set |= 1 << p;
        }
        return set;
    }

    private void toldCalls() {
        int what = below(10);
        int f = below(7);
        if (lots.nextInt(2) == 0) answers("count(" + what + ")", x.count(what), model.count(what));
        else answers("findings(" + f + ")", x.findings(f), model.findings(f));
    }
}
