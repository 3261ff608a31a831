import java.lang.reflect.InvocationTargetException;
import java.lang.reflect.Method;
import java.util.ArrayList;
import java.util.HashMap;
import java.util.List;
import java.util.Map;
import java.util.Set;
import java.util.TreeSet;

/**
 * Boundary cases of one promise, told in lines such as "at(0, 40) = BEYOND", "crew() = 3, asked 42",
 * "odds(0, 1, 2) = 1, 83 by 128". Numbers may be MIN and MAX (the least and the largest int); a
 * finding's name stands for FINDING and that finding. "row 1: 4 5" and "text 0: pp a01" write these.
 */
final class Edge {
    /** Where a run of calls begins. */
    interface State {
        TonguesDealt made();
    }

    /** An object is promised for 512 calls; a state takes some 200 of them. */
    private static final int MOST_CALLS = 300;
    private static final List<String> FINDINGS = List.of("NOTHING", "BEYOND", "UNLIKE", "NOUGHT", "SIZE");
    private static final Map<String, Integer> WORDS = Map.of(
        "MIN", Integer.MIN_VALUE, "MAX", Integer.MAX_VALUE, "BAD", -1, "FULL", -2, "STATE", -4, "NONE", -9);
    private static final Set<String> REFUSALS = Set.of("BAD", "FULL", "STATE");
    private static final Set<String> TELL_ASKED = Set.of(
        "lay", "at", "mean", "person", "needs", "crew", "crier", "signs", "houses");
    private static final Set<String> TELL_FRACTIONS = Set.of("odds", "part", "calls");
    private static final Set<String> CHANGE = Set.of(
        "row", "lay", "tear", "copy", "text", "put", "town", "deal", "noon", "sign", "undo", "on", "keep",
        "order", "lots");
    private static final Map<String, Method> METHODS = new HashMap<>();
    private static final Set<Integer> PROMISES = new TreeSet<>();

    static {
        for (Method m : TonguesDealt.class.getDeclaredMethods()) METHODS.put(m.getName(), m);
    }

    private final String about;

    Edge(int promise, String about) {
        this.about = "promise " + promise + ", " + about + ": ";
        PROMISES.add(promise);
    }

    static Set<Integer> promises() {
        return PROMISES;
    }

    void due(String what, long got, long want) {
        Check.due(about + what, got, want);
    }

    private static int number(String word) {
        return WORDS.containsKey(word) ? WORDS.get(word) : Integer.parseInt(word);
    }

    /** What a call told in a line answers. */
    long answer(TonguesDealt x, String call) {
        int open = call.indexOf('(');
        String inside = call.substring(open + 1, call.length() - 1);
        String[] words = inside.isEmpty() ? new String[0] : inside.split(", ");
        Object[] numbers = new Object[words.length];
        for (int i = 0; i < words.length; i++) numbers[i] = number(words[i]);
        try {
            return ((Number) METHODS.get(nameOf(call)).invoke(x, numbers)).longValue();
        } catch (InvocationTargetException | IllegalAccessException e) {
            Check.holds(about + call + " threw " + e.getCause(), false);
            return Long.MIN_VALUE;
        }
    }

    private static String nameOf(String call) {
        return call.substring(0, call.indexOf('('));
    }

    /** Lines one behind the other on one object. */
    void goes(State state, String... lines) {
        TonguesDealt x = state.made();
        int calls = 0;
        for (String line : lines) calls += goesOn(x, line);
        Check.holds(about + "a run keeps to the calls that are promised", calls <= MOST_CALLS);
    }

    /** How many calls it took. */
    private int goesOn(TonguesDealt x, String line) {
        if (line.startsWith("row ")) return writeRow(x, line);
        if (line.startsWith("text ")) {
            Check.write(x, line.charAt(5) - '0', line.substring(8));
            return line.length() - 7;
        }
        String[] sides = line.split(" = ");
        String[] due = sides[1].split(", ");
        long got = answer(x, sides[0]);
        int finding = FINDINGS.indexOf(due[0]) + 1;
        Check.due(about + sides[0], got, finding > 0 ? Check.FINDING : number(due[0]));
        if (finding > 0) Check.due(about + "finding() behind " + sides[0], x.finding(), finding);
        for (int i = 1; i < due.length; i++) dueBesides(x, sides[0], due[i]);
        return 1 + 2 * due.length;
    }

    private static int writeRow(TonguesDealt x, String line) {
        String[] words = line.length() > 7 ? line.substring(7).split(" ") : new String[0];
        int[] places = new int[words.length];
        for (int i = 0; i < words.length; i++) places[i] = number(words[i]);
        Check.layRow(x, line.charAt(4) - '0', places);
        return 1 + places.length;
    }

    private void dueBesides(TonguesDealt x, String call, String due) {
        String[] words = due.split(" ");
        if (words[0].equals("asked")) {
            Check.due(about + "asked() behind " + call, x.asked(), number(words[1]));
        } else {
            Check.due(about + "upper() behind " + call, x.upper(), number(words[0]));
            Check.due(about + "lower() behind " + call, x.lower(), number(words[2]));
        }
    }

    /** Each line on an object of its own, with a look at what it must leave as it was. */
    void each(State state, String... lines) {
        for (String line : lines) {
            TonguesDealt x = state.made();
            String call = line.substring(0, line.indexOf(" = "));
            String due = line.substring(line.indexOf(" = ") + 3).split(", ")[0];
            long[] before = told(x);
            goesOn(x, line);
            leavesTold(call, due, before, told(x));
            if (isRefusal(due)) leavesLife(call, x, state.made());
        }
    }

    /** One number of a call, a # in it: from .. to are numbers, the ones outside are BAD. */
    void bounds(State state, String call, int from, int to) {
        for (int v = from; v <= to; v++) {
            String inside = call.replace("#", Integer.toString(v));
            Check.holds(about + inside + " is not BAD", answer(state.made(), inside) != Check.BAD);
        }
        outside(state, call, Integer.MIN_VALUE, from - 1, to + 1, Integer.MAX_VALUE);
    }

    void outside(State state, String call, int... numbers) {
        for (int v : numbers) each(state, call.replace("#", Integer.toString(v)) + " = BAD");
    }

    private static boolean isRefusal(String due) {
        return REFUSALS.contains(due) || FINDINGS.contains(due);
    }

    private static long[] told(TonguesDealt x) {
        return new long[] {x.digest(), x.asked(), x.upper(), x.lower(), x.finding(),
            x.findings(1), x.findings(2), x.findings(3), x.findings(4), x.findings(5)};
    }

    private void leavesTold(String call, String due, long[] before, long[] behind) {
        boolean refused = isRefusal(due);
        String name = nameOf(call);
        if (refused || due.equals("NONE") || !CHANGE.contains(name)) stays("digest()", call, before, behind, 0);
        if (refused || !TELL_ASKED.contains(name)) stays("asked()", call, before, behind, 1);
        if (refused || !TELL_FRACTIONS.contains(name)) {
            stays("upper()", call, before, behind, 2);
            stays("lower()", call, before, behind, 3);
        }
        int finding = FINDINGS.indexOf(due) + 1;
        if (finding == 0) stays("finding()", call, before, behind, 4);
        else before[4 + finding]++;
        for (int f = 1; f <= 5; f++) stays("findings(" + f + ")", call, before, behind, 4 + f);
    }

    private void stays(String what, String call, long[] before, long[] behind, int i) {
        Check.due(about + what + " behind " + call, behind[i], before[i]);
    }

    /** Behind a refused call all goes on as with an object on which it was not made. */
    private void leavesLife(String call, TonguesDealt x, TonguesDealt other) {
        Check.holds(about + "life goes on as if without " + call, life(x).equals(life(other)));
    }

    private static List<Long> life(TonguesDealt x) {
        List<Long> all = new ArrayList<>();
        look(x, all);
        for (int k = 0; k < 3; k++) {
            all.add((long) x.on(k));
            look(x, all);
        }
        all.add((long) x.undo(1));
        look(x, all);
        all.add((long) x.undo(0));
        look(x, all);
        return all;
    }

    private static void look(TonguesDealt x, List<Long> all) {
        all.add(x.digest());
        for (int p = 0; p < 6; p++) {
            for (int q = p + 1; q < 6; q += 2) all.add((long) x.tells(p, q));
            all.add((long) x.reach(p));
        }
        all.add((long) x.asked());
    }
}
