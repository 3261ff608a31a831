import java.util.ArrayDeque;
import java.util.Arrays;
import java.util.Collections;
import java.util.Deque;
import java.util.List;
import java.util.Map;
import java.util.Random;
import java.util.Set;
import java.util.TreeMap;
import java.util.TreeSet;

/**
 * Runs of 512 calls on one object, by lots, each answer against the model's. A run goes in rounds: all
 * calls of the face, one behind the other in an order by lots, with rows and texts written among them,
 * and behind a call mostly a look at what it told besides.
 */
public final class RunsTest {
    private static final int RUNS = 600, CALLS = 512;
    private static final int[] ODD = {
        -1, Integer.MIN_VALUE, Integer.MAX_VALUE, -2, 6, 7, 40, 41, 60, 61, 64, 2147483646, 4096, -128, 255};
    private static final List<String> LOOKS = List.of("asked", "upper", "lower", "finding", "digest");
    private static final List<String> FINDINGS = List.of("", "NOTHING", "BEYOND", "UNLIKE", "NOUGHT", "SIZE");
    /** Of each call all that the document lets it be answered by: "told", NONE, and its refusals. */
    private static final String DUE = "row told BAD SIZE; lay told BAD NOTHING BEYOND; at told BAD NOTHING BEYOND; "
        + "tear told BAD NOTHING; copy told BAD SIZE NOTHING BEYOND; mean told BAD NOTHING NOUGHT; "
        + "text told BAD SIZE; put told BAD NOTHING BEYOND; fault told NONE BAD NOTHING; "
        + "town told BAD NOTHING STATE; person told BAD; mark told BAD UNLIKE; "
        + "deal told BAD STATE NOTHING SIZE UNLIKE FULL; noon told STATE FULL; sign told BAD STATE FULL; "
        + "undo told BAD; keep told BAD STATE; on told BAD NOTHING; tells told BAD; order told NONE BAD; "
        + "needs told BAD; crew told STATE; reach told BAD; crier told STATE; signs told NONE BAD; odds told BAD; "
        + "part told BAD STATE; houses told BAD STATE NOTHING SIZE UNLIKE; rule told BAD STATE NOTHING SIZE UNLIKE; "
        + "broken told NONE BAD STATE NOTHING SIZE UNLIKE; shouted told BAD; "
        + "calls told BAD STATE NOTHING SIZE UNLIKE; lots told BAD STATE FULL; asked told; upper told; lower told; "
        + "count told BAD; finding told; findings told BAD; digest told";

    private static final Map<String, Set<String>> ANSWERED = new TreeMap<>();

    private final Random lots;
    private final Both both = new Both();
    private final Set<String> came = new TreeSet<>();
    /** How often a wrong number stands where one is wanted: one in so many. */
    private final int oddness;
    private int latestRow = 0;
    private int latestText = 0;

    private RunsTest(long seed) {
        lots = new Random(seed);
        oddness = new int[] {6, 40, 400}[(int) (seed % 3)];
    }

    public static void main(String[] args) {
        for (int run = 0; run < RUNS; run++) {
            if (!new RunsTest(run).goes(run)) break;
        }
        Map<String, Set<String>> due = new TreeMap<>();
        for (String line : DUE.split("; ")) {
            String[] words = line.split(" ");
            due.put(words[0], new TreeSet<>(Arrays.asList(words).subList(1, words.length)));
        }
        for (String name : Both.names()) {
            Check.holds(name + "() is answered by " + due.get(name) + ", it was by " + ANSWERED.get(name),
                due.get(name).equals(ANSWERED.get(name)));
        }
        Check.end("RunsTest");
    }

    private boolean goes(int run) {
        while (goesOn()) round(run);
        Check.holds("run " + run + ": all answers are the model's", both.same());
        if (!both.same()) {
            System.out.println(both.told(60));
            return false;
        }
        Check.due("run " + run + ": calls", both.calls(), CALLS);
        Check.holds("run " + run + ": calls of all promises", came.containsAll(Both.names()));
        return true;
    }

    private boolean goesOn() {
        return both.same() && both.calls() < CALLS;
    }

    private void round(int run) {
        // in half of the runs a town lives long, so that it comes to forty deeds
        boolean anew = persons() == 0 || run % 2 == 0;
        if (anew) {
            writeText();
            call("town", latestText);
        }
        List<String> names = Both.names();
        Collections.shuffle(names, lots);
        Deque<String> left = new ArrayDeque<>(names);
        while (!left.isEmpty() && goesOn()) {
            if (left.size() % 14 == 0) writeRow();
            if (left.size() % 21 == 0) call("deal", latestRow);
            call(left.remove());
        }
    }

    private void call(String name, int... numbers) {
        if (!goesOn()) return;
        long got = both.ask(name, numbers);
        came.add(name);
        ANSWERED.computeIfAbsent(name, n -> new TreeSet<>()).add(sort(name, got));
        if (lots.nextInt(2) == 0 && goesOn()) both.ask(LOOKS.get(lots.nextInt(LOOKS.size())));
    }

    private String sort(String name, long got) {
        if (got >= 0 || LOOKS.contains(name)) return "told";
        if (got == Check.FINDING) return FINDINGS.get(both.model.finding());
        return got == Check.BAD ? "BAD" : got == Check.FULL ? "FULL" : got == Check.STATE ? "STATE"
            : got == Check.NONE ? "NONE" : "" + got;
    }

    private int below(int n) {
        return lots.nextInt(oddness) == 0 ? ODD[lots.nextInt(ODD.length)] : lots.nextInt(n);
    }

    private int persons() {
        return both.model.count(0);
    }

    private int someone() {
        return below(Math.max(1, persons()));
    }

    /** Mostly not the one who is told. */
    private int otherThan(int p) {
        return lots.nextInt(8) == 0 || persons() < 2 ? someone() : (p + 1 + below(persons() - 1)) % persons();
    }

    private int someRow() {
        return lots.nextInt(2) == 0 ? latestRow : below(6);
    }

    private int someText() {
        return below(4);
    }

    /** Mostly a number that fits a place, now and then any. */
    private int value() {
        return lots.nextInt(3) == 0 ? lots.nextInt() : below(4);
    }

    private void call(String name) {
        int p = someone();
        int q = otherThan(p);
        switch (name) {
            case "row": call(name, someRow(), below(lots.nextInt(3) == 0 ? 41 : 8)); break;
            case "lay": call(name, someRow(), below(7), value()); break;
            case "at": call(name, someRow(), below(7)); break;
            case "copy": call(name, someRow(), below(4), someRow(), below(4), below(4)); break;
            case "text": call(name, someText(), below(lots.nextInt(3) == 0 ? 61 : 4)); break;
            case "put": call(name, someText(), below(12), lots.nextInt(2) == 0 ? value() : ' '); break;
            case "fault": case "town": call(name, someText()); break;
            case "tear": case "mean": case "deal": case "houses": case "broken": case "calls":
                call(name, someRow());
                break;
            case "person": call(name, p, below(5)); break;
            case "mark": call(name, p, 1 + below(5)); break;
            case "keep": case "on": call(name, below(3)); break;
            case "undo": call(name, both.model.count(4) - below(lots.nextInt(3) == 0 ? 40 : 3)); break;
            case "tells": case "sign": case "needs": case "signs": call(name, p, q); break;
            case "order": call(name, p, q, someRow()); break;
            case "reach": call(name, p); break;
            case "odds": call(name, p, q, below(5)); break;
            case "part": call(name, p, q, otherThan(q)); break;
            case "rule": call(name, someRow(), below(4)); break;
            case "shouted": call(name, lots.nextInt(2) == 0 ? heard() : below(1 << persons())); break;
            case "lots": call(name, 1 + below(20), 1 + below(2147483646)); break;
            case "count": call(name, below(9)); break;
            case "findings": call(name, 1 + below(5)); break;
            default: call(name, new int[0]); break;
        }
    }

    /** Those who know a tongue now, so that shouts are understood by whom they may be. */
    private int heard() {
        int tongue = lots.nextInt(4);
        int set = 0;
        for (int p = 0; p < persons(); p++) set |= (both.model.toldOf(p, 2) >> tongue & 1) << p;
        return set;
    }

    /** Mostly a town's text, or one place off. */
    private String textByLots() {
        StringBuilder s = new StringBuilder();
        int persons = 1 + Math.max(lots.nextInt(lots.nextInt(12) == 0 ? 7 : 6), lots.nextInt(6));
        for (int p = 0; p < persons; p++) {
            if (lots.nextInt(6) == 0) s.append(' ');
            s.append("plmdst".charAt(lots.nextInt(6)));
        }
        for (int ties = lots.nextInt(6); ties > 0; ties--) {
            int p = lots.nextInt(persons);
            int q = lots.nextInt(30) == 0 ? lots.nextInt(10) : lots.nextInt(persons);
            char letter = lots.nextInt(3) == 0 ? 'a' : 'g';
            boolean wrong = p == q || s.indexOf("" + letter + p + q) >= 0 || s.indexOf("" + letter + q + p) >= 0;
            if (wrong && lots.nextInt(20) > 0) continue;
            if (lots.nextInt(2) == 0) s.append(' ');
            s.append(letter).append(p).append(q);
        }
        if (lots.nextInt(4) == 0) s.append("  ");
        if (lots.nextInt(8) == 0) s.setLength(lots.nextInt(s.length() + 1));
        if (lots.nextInt(8) == 0 && s.length() > 0) {
            s.setCharAt(lots.nextInt(s.length()), " plmdstag0123456x\u00f0".charAt(lots.nextInt(18)));
        }
        return s.toString();
    }

    private void writeText() {
        String s = textByLots();
        int t = lots.nextInt(4);
        latestText = t;
        call("text", t, s.length());
        for (int i = 0; i < s.length(); i++) {
            if (goesOn() && s.charAt(i) != ' ') both.ask("put", t, i, s.charAt(i));
        }
    }

    /** A row that mostly is a deal by which houses agree, or mornings, or sets of persons. */
    private void writeRow() {
        int n = Math.max(1, persons());
        boolean sets = lots.nextInt(4) == 0;
        int mornings = lots.nextInt(3) > 0 ? 1 : lots.nextInt(Math.min(6, 40 / n) + 1);
        int[] places = new int[sets ? lots.nextInt(5) : n * mornings];
        for (int i = 0; i < places.length; i++) places[i] = sets ? lots.nextInt(1 << n) : lots.nextInt(4);
        if (!sets && persons() > 0 && lots.nextInt(4) > 0) agree(places);
        int r = lots.nextInt(6);
        latestRow = r;
        call("row", r, places.length);
        for (int i = 0; i < places.length; i++) {
            if (goesOn() && places[i] != 0) both.ask("lay", r, i, places[i]);
        }
    }

    private void agree(int[] places) {
        for (int i = 0; i < places.length; i++) {
            int p = i % persons();
            places[i] = places[i - p + Integer.numberOfTrailingZeros(both.model.toldOf(p, 3))];
        }
    }
}
