import java.math.BigInteger;
import java.util.ArrayList;
import java.util.Arrays;
import java.util.Collections;
import java.util.HashSet;
import java.util.List;
import java.util.Set;
import java.util.TreeSet;
import java.util.regex.Matcher;
import java.util.regex.Pattern;

/**
 * The document once more, in the plainest way and by other means than the class: all ways are
 * listed, all deals and all orders of mouths gone through, nothing is kept that can be counted anew.
 */
final class Model {
    static final int BAD = -1, FULL = -2, FINDING = -3, STATE = -4, NONE = -9;
    private static final String LETTERS = "plmdst";

    /** A town as it was read; what happened there is a list of deeds. */
    private static final class Town {
        String kinds = "";
        final List<int[]> houses = new ArrayList<>();
        final List<int[]> signs = new ArrayList<>();

        int size() {
            return kinds.length();
        }
    }

    /** All that who-tells-whom goes by. */
    private static final class Hour {
        int[] dealt;
        boolean noon;
        int morning;
        Set<Integer> signs = new TreeSet<>();
    }

    private final int[][] rows = new int[6][];
    private final byte[][] texts = new byte[4][];
    private Town town = new Town();
    private List<int[]> deeds = new ArrayList<>();
    private final List<List<int[]>> kept = new ArrayList<>(Arrays.asList(null, null, null));
    private final int[] findings = new int[6];
    private int finding;
    private int asked;
    private long upper;
    private long lower = 1;

    private int find(int f) {
        finding = f;
        findings[f]++;
        return FINDING;
    }

    private static boolean in(int v, int from, int to) {
        return v >= from && v <= to;
    }

    private boolean who(int... persons) {
        Set<Integer> all = new HashSet<>();
        for (int p : persons) {
            if (!in(p, 0, town.size() - 1) || !all.add(p)) return false;
        }
        return true;
    }

    // ---- rows and texts

    int row(int r, int n) {
        if (!in(r, 0, 5) || n > 40) return BAD;
        if (n < 0) return find(5);
        rows[r] = new int[n];
        return n;
    }

    int lay(int r, int i, int v) {
        int told = at(r, i);
        if (told == 1) rows[r][i] = v;
        return told;
    }

    int at(int r, int i) {
        if (!in(r, 0, 5)) return BAD;
        if (rows[r] == null) return find(1);
        if (!in(i, 0, rows[r].length - 1)) return find(2);
        asked = rows[r][i];
        return 1;
    }

    int tear(int r) {
        if (!in(r, 0, 5)) return BAD;
        if (rows[r] == null) return find(1);
        rows[r] = null;
        return 1;
    }

    int copy(int r, int i, int to, int j, int n) {
        if (!in(r, 0, 5) || !in(to, 0, 5)) return BAD;
        if (n < 0) return find(5);
        if (rows[r] == null || rows[to] == null) return find(1);
        if (i < 0 || j < 0 || (long) i + n > rows[r].length || (long) j + n > rows[to].length) return find(2);
        int[] taken = rows[r].clone();
        for (int k = 0; k < n; k++) rows[to][j + k] = taken[i + k];
        return 1;
    }

    int mean(int r) {
        if (!in(r, 0, 5)) return BAD;
        if (rows[r] == null) return find(1);
        if (rows[r].length == 0) return find(4);
        BigInteger sum = BigInteger.ZERO;
        for (int v : rows[r]) sum = sum.add(BigInteger.valueOf(v));
        asked = sum.divide(BigInteger.valueOf(rows[r].length)).intValueExact();
        return 1;
    }

    int text(int t, int n) {
        if (!in(t, 0, 3) || n > 60) return BAD;
        if (n < 0) return find(5);
        texts[t] = new byte[n];
        Arrays.fill(texts[t], (byte) 32);
        return n;
    }

    int put(int t, int i, int v) {
        if (!in(t, 0, 3)) return BAD;
        if (texts[t] == null) return find(1);
        if (!in(i, 0, texts[t].length - 1)) return find(2);
        int was = texts[t][i] + 1000;
        texts[t][i] = (byte) v;
        return was;
    }

    // ---- towns

    private static final Pattern BEGUN = Pattern.compile(" *((?:[plmdst] *)*)((?:[ag][0-9][0-9] *)*)([ag]?[0-9]?)");

    /** What a beginning of a text tells; null: no text goes on so. */
    private static Town begun(String text) {
        Matcher m = BEGUN.matcher(text);
        if (!m.matches()) return null;
        Town read = new Town();
        read.kinds = m.group(1).replace(" ", "");
        String ties = m.group(2).replace(" ", "") + m.group(3);
        if (read.size() > 6 || !ties.isEmpty() && read.size() == 0) return null;
        for (int i = 0; i < ties.length(); i += 3) {
            if (ties.charAt(i) != 'a' && ties.charAt(i) != 'g') return null;
            List<int[]> of = ties.charAt(i) == 'a' ? read.houses : read.signs;
            int one = i + 1 < ties.length() ? ties.charAt(i + 1) - '0' : 0;
            if (one >= read.size()) return null;
            if (i + 2 >= ties.length()) continue;
            int other = ties.charAt(i + 2) - '0';
            if (other >= read.size() || other == one) return null;
            for (int[] told : of) {
                if (told[0] + told[1] == one + other && told[0] * told[1] == one * other) return null;
            }
            of.add(new int[] {one, other});
        }
        return read;
    }

    private String written(int t) {
        StringBuilder s = new StringBuilder();
        for (byte b : texts[t]) s.append((char) (b & 255));
        return s.toString();
    }

    private int faultOf(int t) {
        String s = written(t);
        for (int i = 0; i < s.length(); i++) {
            if (begun(s.substring(0, i + 1)) == null) return i;
        }
        boolean ends = s.matches(" *(?:[plmdst] *)+(?:[ag][0-9][0-9] *)*");
        return ends ? NONE : s.length();
    }

    int fault(int t) {
        if (!in(t, 0, 3)) return BAD;
        return texts[t] == null ? find(1) : faultOf(t);
    }

    int town(int t) {
        if (!in(t, 0, 3)) return BAD;
        if (texts[t] == null) return find(1);
        if (faultOf(t) != NONE) return STATE;
        town = begun(written(t));
        deeds = new ArrayList<>();
        Collections.fill(kept, null);
        return town.size();
    }

    private static int pair(int p, int q) {
        return Math.min(p, q) * 10 + Math.max(p, q);
    }

    /** Deeds: {0, tongues ..} a morning, {1} a noon, {2, p, q} a sign. */
    private Hour now() {
        Hour h = new Hour();
        h.dealt = new int[town.size()];
        for (int[] s : town.signs) h.signs.add(pair(s[0], s[1]));
        for (int[] deed : deeds) {
            if (deed[0] == 0) {
                h.dealt = Arrays.copyOfRange(deed, 1, deed.length);
                h.noon = false;
                h.morning++;
            } else if (deed[0] == 1) {
                h.noon = true;
            } else {
                h.signs.add(pair(deed[1], deed[2]));
            }
        }
        return h;
    }

    private boolean is(int p, int kind) {
        char letter = town.kinds.charAt(p);
        switch (kind) {
            case 1: return letter == 'l' || letter == 'd';
            case 2: return letter == 'm' || letter == 's';
            case 3: return letter == 'd';
            case 4: return letter == 's';
            case 5: return letter == 't';
            default: return true;
        }
    }

    private Set<Integer> knows(Hour h, int p) {
        int n = town.size();
        Set<Integer> known = new TreeSet<>();
        known.add(h.dealt[p]);
        if (is(p, 1) && h.noon) known.add(h.dealt[(p + 1) % n]);
        if (is(p, 3)) known.add((h.dealt[p] + 1) % 4);
        if (is(p, 5)) known.add(h.dealt[(p + n - 1) % n]);
        return known;
    }

    private boolean tells(Hour h, int p, int q) {
        if (h.signs.contains(pair(p, q))) return true;
        if (is(p, 2) || is(q, 4) && !h.noon) return false;
        return !Collections.disjoint(knows(h, p), knows(h, q));
    }

    private static int bits(Iterable<Integer> set) {
        int bits = 0;
        for (int v : set) bits |= 1 << v;
        return bits;
    }

    private Set<Integer> dealtAs(int p) {
        Set<Integer> all = new TreeSet<>();
        all.add(p);
        for (int round = 0; round < 6; round++) {
            for (int[] house : town.houses) {
                if (all.contains(house[0])) all.add(house[1]);
                if (all.contains(house[1])) all.add(house[0]);
            }
        }
        return all;
    }

    /** What person() tells, without telling it. */
    int toldOf(int p, int what) {
        Hour h = now();
        switch (what) {
            case 0: return LETTERS.indexOf(town.kinds.charAt(p));
            case 1: return h.dealt[p];
            case 2: return bits(knows(h, p));
            case 3: return bits(dealtAs(p));
            default:
                Set<Integer> with = new TreeSet<>();
                for (int q = 0; q < town.size(); q++) {
                    if (q != p && h.signs.contains(pair(p, q))) with.add(q);
                }
                return bits(with);
        }
    }

    int person(int p, int what) {
        if (!who(p) || !in(what, 0, 4)) return BAD;
        asked = toldOf(p, what);
        return 1;
    }

    int mark(int p, int kind) {
        if (!who(p) || !in(kind, 1, 5)) return BAD;
        if (!is(p, kind)) return find(3);
        Hour h = now();
        if (kind == 1) return gain(h, p);
        if (kind == 5) return knows(h, p).size();
        int others = 0;
        for (int q = 0; q < town.size(); q++) {
            if (q == p) continue;
            boolean does = kind == 2 ? tells(h, q, p)
                : kind == 3 ? knows(h, q).contains((h.dealt[p] + 1) % 4)
                : !Collections.disjoint(knows(h, p), knows(h, q));
            if (does) others++;
        }
        return others;
    }

    private int gain(Hour h, int p) {
        Hour ahead = new Hour();
        ahead.dealt = h.dealt;
        Hour behind = new Hour();
        behind.dealt = h.dealt;
        behind.noon = true;
        return knows(behind, p).size() - knows(ahead, p).size();
    }

    // ---- deeds

    private boolean agrees(int[] tongues, int from) {
        for (int[] house : town.houses) {
            if (tongues[from + house[0]] != tongues[from + house[1]]) return false;
        }
        return true;
    }

    private static boolean tonguesAlone(int[] row) {
        for (int v : row) {
            if (!in(v, 0, 3)) return false;
        }
        return true;
    }

    private void morning(int[] tongues) {
        int[] deed = new int[tongues.length + 1];
        System.arraycopy(tongues, 0, deed, 1, tongues.length);
        deeds.add(deed);
    }

    int deal(int r) {
        if (!in(r, 0, 5)) return BAD;
        if (town.size() == 0) return STATE;
        if (rows[r] == null) return find(1);
        if (rows[r].length != town.size()) return find(5);
        if (!tonguesAlone(rows[r]) || !agrees(rows[r], 0)) return find(3);
        if (deeds.size() == 40) return FULL;
        morning(rows[r]);
        return now().morning;
    }

    int noon() {
        Hour h = now();
        if (town.size() == 0 || h.noon) return STATE;
        if (deeds.size() == 40) return FULL;
        deeds.add(new int[] {1});
        int more = 0;
        for (int p = 0; p < town.size(); p++) {
            if (knows(now(), p).size() > knows(h, p).size()) more++;
        }
        return more;
    }

    int sign(int p, int q) {
        if (!who(p, q)) return BAD;
        if (now().signs.contains(pair(p, q))) return STATE;
        if (deeds.size() == 40) return FULL;
        deeds.add(new int[] {2, p, q});
        return now().signs.size();
    }

    int undo(int n) {
        if (!in(n, 0, deeds.size())) return BAD;
        int undone = deeds.size() - n;
        deeds = new ArrayList<>(deeds.subList(0, n));
        return undone;
    }

    int keep(int k) {
        if (!in(k, 0, 2)) return BAD;
        if (town.size() == 0) return STATE;
        kept.set(k, new ArrayList<>(deeds));
        return deeds.size();
    }

    int on(int k) {
        if (!in(k, 0, 2)) return BAD;
        if (kept.get(k) == null) return find(1);
        deeds = new ArrayList<>(kept.get(k));
        return deeds.size();
    }

    // ---- who tells whom

    private boolean[][] telling(Hour h) {
        boolean[][] all = new boolean[town.size()][town.size()];
        for (int p = 0; p < all.length; p++) {
            for (int q = 0; q < all.length; q++) all[p][q] = p != q && tells(h, p, q);
        }
        return all;
    }

    /** All ways on which nobody comes twice. */
    private static void ways(boolean[][] tells, List<Integer> way, int q, List<List<Integer>> all) {
        int last = way.get(way.size() - 1);
        if (last == q) {
            all.add(new ArrayList<>(way));
            return;
        }
        for (int next = 0; next < tells.length; next++) {
            if (!tells[last][next] || way.contains(next)) continue;
            way.add(next);
            ways(tells, way, q, all);
            way.remove(way.size() - 1);
        }
    }

    private static List<List<Integer>> ways(boolean[][] tells, int p, int q) {
        List<List<Integer>> all = new ArrayList<>();
        ways(tells, new ArrayList<>(List.of(p)), q, all);
        return all;
    }

    int tells(int p, int q) {
        if (!who(p, q)) return BAD;
        return tells(now(), p, q) ? 1 : 0;
    }

    int order(int p, int q, int r) {
        if (!who(p, q) || !in(r, 0, 5)) return BAD;
        List<Integer> best = null;
        // ways come sorted by numbers, so the first of the shortest is the one
        for (List<Integer> way : ways(telling(now()), p, q)) {
            if (best == null || way.size() < best.size()) best = way;
        }
        if (best == null) return NONE;
        rows[r] = best.stream().mapToInt(v -> v).toArray();
        return best.size() - 2;
    }

    int needs(int p, int q) {
        if (!who(p, q)) return BAD;
        Set<Integer> needed = new TreeSet<>();
        for (int m = 0; m < town.size(); m++) needed.add(m);
        needed.remove(p);
        needed.remove(q);
        List<List<Integer>> all = ways(telling(now()), p, q);
        for (List<Integer> way : all) needed.retainAll(way);
        asked = all.isEmpty() ? 0 : 1;
        return bits(needed);
    }

    int crew() {
        if (town.size() == 0) return STATE;
        boolean[][] tells = telling(now());
        int best = 0;
        for (int set = (1 << tells.length) - 1; set > 0; set--) {
            boolean all = true;
            for (int p = 0; p < tells.length; p++) {
                for (int q = 0; q < tells.length; q++) {
                    if (p != q && (set >> p & set >> q & 1) == 1 && !tells[p][q]) all = false;
                }
            }
            if (all && Integer.bitCount(set) >= Integer.bitCount(best)) best = set;
        }
        asked = best;
        return Integer.bitCount(best);
    }

    private static int reach(boolean[][] tells, int p) {
        int n = tells.length;
        boolean[][] reach = new boolean[n][];
        for (int i = 0; i < n; i++) reach[i] = tells[i].clone();
        for (int k = 0; k < n; k++) {
            for (int i = 0; i < n; i++) {
                for (int j = 0; j < n; j++) reach[i][j] |= reach[i][k] && reach[k][j];
            }
        }
        int set = 1 << p;
        for (int q = 0; q < n; q++) {
            if (reach[p][q]) set |= 1 << q;
        }
        return set;
    }

    int reach(int p) {
        return who(p) ? reach(telling(now()), p) : BAD;
    }

    int crier() {
        if (town.size() == 0) return STATE;
        boolean[][] tells = telling(now());
        int best = 0;
        for (int p = 1; p < town.size(); p++) {
            if (Integer.bitCount(reach(tells, p)) > Integer.bitCount(reach(tells, best))) best = p;
        }
        asked = Integer.bitCount(reach(tells, best)) - 1;
        return best;
    }

    // ---- whatever is dealt

    private List<int[]> allDeals() {
        List<int[]> all = new ArrayList<>();
        int n = town.size();
        for (int d = 0; d < Math.pow(4, n); d++) {
            int[] dealt = new int[n];
            int rest = d;
            for (int p = 0; p < n; p++) {
                dealt[p] = rest % 4;
                rest /= 4;
            }
            if (agrees(dealt, 0)) all.add(dealt);
        }
        return all;
    }

    private List<boolean[][]> allTelling() {
        Hour h = now();
        List<boolean[][]> all = new ArrayList<>();
        for (int[] dealt : allDeals()) {
            h.dealt = dealt;
            all.add(telling(h));
        }
        return all;
    }

    private static boolean goesAlways(List<boolean[][]> all, int p, int q, int[]... signs) {
        for (boolean[][] tells : all) {
            boolean[][] more = new boolean[tells.length][];
            for (int i = 0; i < more.length; i++) more[i] = tells[i].clone();
            for (int[] s : signs) {
                more[s[0]][s[1]] = true;
                more[s[1]][s[0]] = true;
            }
            if ((reach(more, p) >> q & 1) == 0) return false;
        }
        return true;
    }

    int signs(int p, int q) {
        if (!who(p, q)) return BAD;
        List<boolean[][]> all = allTelling();
        asked = 0;
        for (int x = 0; x < town.size(); x++) {
            if (x != p && goesAlways(all, p, x)) asked++;
        }
        if (goesAlways(all, p, q)) return 0;
        List<int[]> pairs = new ArrayList<>();
        for (int x = 0; x < town.size(); x++) {
            for (int y = x + 1; y < town.size(); y++) {
                if (pair(x, y) != pair(p, q)) pairs.add(new int[] {x, y});
            }
        }
        for (int[] one : pairs) {
            if (goesAlways(all, p, q, one)) return 1;
        }
        for (int[] one : pairs) {
            for (int[] other : pairs) {
                if (goesAlways(all, p, q, one, other)) return 2;
            }
        }
        return NONE;
    }

    private void fraction(long up, long low) {
        long divisor = BigInteger.valueOf(up).gcd(BigInteger.valueOf(low)).longValueExact();
        upper = up / divisor;
        lower = low / divisor;
    }

    int odds(int p, int q, int n) {
        if (!who(p, q) || !in(n, 0, 4)) return BAD;
        List<boolean[][]> all = allTelling();
        int going = 0;
        for (boolean[][] tells : all) {
            int[] steps = new int[tells.length];
            Arrays.fill(steps, 99);
            steps[p] = 0;
            for (int round = 0; round < 6; round++) {
                for (int i = 0; i < steps.length; i++) {
                    for (int j = 0; j < steps.length; j++) {
                        if (tells[i][j]) steps[j] = Math.min(steps[j], steps[i] + 1);
                    }
                }
            }
            if (steps[q] - 1 <= n) going++;
        }
        fraction(going, all.size());
        return 1;
    }

    private static void permute(List<Integer> rest, List<Integer> begun, List<List<Integer>> all) {
        if (rest.isEmpty()) all.add(new ArrayList<>(begun));
        for (int i = 0; i < rest.size(); i++) {
            List<Integer> less = new ArrayList<>(rest);
            begun.add(less.remove(i));
            permute(less, begun, all);
            begun.remove(begun.size() - 1);
        }
    }

    int part(int p, int q, int mouth) {
        if (!who(p, q, mouth)) return BAD;
        List<List<Integer>> ways = ways(telling(now()), p, q);
        if (ways.isEmpty() || ways.contains(List.of(p, q))) return STATE;
        List<Integer> mouths = new ArrayList<>();
        for (int m = 0; m < town.size(); m++) {
            if (m != p && m != q) mouths.add(m);
        }
        List<List<Integer>> all = new ArrayList<>();
        permute(mouths, new ArrayList<>(), all);
        int owed = 0;
        for (List<Integer> coming : all) {
            Set<Integer> there = new HashSet<>(List.of(p, q));
            for (int m : coming) {
                there.add(m);
                if (ways.stream().noneMatch(there::containsAll)) continue;
                if (m == mouth) owed++;
                break;
            }
        }
        fraction(owed, all.size());
        return 1;
    }

    // ---- mornings

    private int mornings(int r) {
        if (town.size() == 0) return STATE;
        if (rows[r] == null) return find(1);
        if (rows[r].length % town.size() != 0) return find(5);
        return tonguesAlone(rows[r]) ? 0 : find(3);
    }

    private List<Integer> of(int r, int p) {
        List<Integer> tongues = new ArrayList<>();
        for (int i = p; i < rows[r].length; i += town.size()) tongues.add(rows[r][i]);
        return tongues;
    }

    int houses(int r) {
        if (!in(r, 0, 5)) return BAD;
        int refused = mornings(r);
        if (refused != 0) return refused;
        int pairs = 0;
        asked = 0;
        for (int p = 0; p < town.size(); p++) {
            for (int q = 0; q < p; q++) {
                if (!of(r, p).equals(of(r, q))) continue;
                pairs++;
                asked |= 1 << p | 1 << q;
            }
        }
        return pairs;
    }

    int rule(int r, int which) {
        if (!in(r, 0, 5) || !in(which, 0, 3)) return BAD;
        int refused = mornings(r);
        if (refused != 0) return refused;
        int set = 0;
        for (int p = 0; p < town.size(); p++) {
            List<Integer> tongues = of(r, p);
            boolean goes = which != 3 || new HashSet<>(tongues).size() == tongues.size();
            for (int m = 1; m < tongues.size(); m++) {
                int turned = Math.floorMod(tongues.get(m) - tongues.get(m - 1), 4);
                if (which == 0 && turned != 0 || which == 1 && turned != 1 || which == 2 && turned == 0) goes = false;
            }
            if (goes) set |= 1 << p;
        }
        return set;
    }

    int broken(int r) {
        if (!in(r, 0, 5)) return BAD;
        int refused = mornings(r);
        if (refused != 0) return refused;
        for (int from = 0; from < rows[r].length; from += town.size()) {
            if (!agrees(rows[r], from)) return from / town.size();
        }
        return NONE;
    }

    // ---- shouts, calls, lots

    private int understood(Hour h, int tongue) {
        int set = 0;
        for (int p = 0; p < town.size(); p++) {
            if (is(p, 4) && !h.noon) continue;
            if (knows(h, p).contains(tongue)) set |= 1 << p;
        }
        return set;
    }

    int shouted(int set) {
        if (!in(set, 0, (1 << town.size()) - 1)) return BAD;
        int can = 0;
        for (int tongue = 0; tongue < 4; tongue++) {
            if (understood(now(), tongue) == set) can |= 1 << tongue;
        }
        return can;
    }

    int calls(int r) {
        if (!in(r, 0, 5)) return BAD;
        if (town.size() == 0) return STATE;
        if (rows[r] == null) return find(1);
        if (rows[r].length > 4) return find(5);
        for (int set : rows[r]) {
            if (!in(set, 0, (1 << town.size()) - 1)) return find(3);
        }
        upper = 0;
        lower = 1;
        Hour h = new Hour();
        for (int[] dealt : allDeals()) {
            h.dealt = dealt;
            boolean fits = true;
            for (int t = 0; t < rows[r].length; t++) fits &= understood(h, t) == rows[r][t];
            if (fits) upper++;
        }
        return 1;
    }

    int lots(int n, int seed) {
        if (!in(n, 1, 20) || !in(seed, 1, 2147483646)) return BAD;
        if (town.size() < 2) return STATE;
        if (deeds.size() + n > 40) return FULL;
        BigInteger lot = BigInteger.valueOf(seed);
        int going = 0;
        for (int m = 0; m < n; m++) {
            int[] dealt = new int[town.size()];
            for (int p = 0; p < dealt.length; p++) {
                int least = dealtAs(p).iterator().next();
                if (least < p) {
                    dealt[p] = dealt[least];
                    continue;
                }
                lot = lot.multiply(BigInteger.valueOf(48271)).mod(BigInteger.valueOf(2147483647));
                dealt[p] = lot.divide(BigInteger.valueOf(8)).mod(BigInteger.valueOf(4)).intValue();
            }
            morning(dealt);
            if (!ways(telling(now()), 0, dealt.length - 1).isEmpty()) going++;
        }
        return going;
    }

    // ---- what is told

    int asked() {
        return asked;
    }

    long upper() {
        return upper;
    }

    long lower() {
        return lower;
    }

    int count(int what) {
        Hour h = now();
        switch (what) {
            case 0: return town.size();
            case 1: return h.morning;
            case 2: return h.noon ? 1 : 0;
            case 3: return h.signs.size();
            case 4: return deeds.size();
            case 5: return (int) town.kinds.chars().filter(c -> c == 'l' || c == 'd').count();
            case 6: return (int) Arrays.stream(rows).filter(v -> v != null).count();
            case 7: return (int) Arrays.stream(texts).filter(v -> v != null).count();
            case 8: return (int) kept.stream().filter(v -> v != null).count();
            default: return BAD;
        }
    }

    int finding() {
        return finding;
    }

    int findings(int f) {
        return in(f, 1, 5) ? findings[f] : BAD;
    }

    long digest() {
        List<Integer> all = new ArrayList<>();
        for (int what = 0; what < 9; what++) all.add(count(what));
        for (int p = 0; p < town.size(); p++) {
            for (int what = 0; what < 5; what++) all.add(toldOf(p, what));
        }
        for (List<int[]> k : kept) all.add(k == null ? -1 : k.size());
        for (int[] row : rows) {
            all.add(row == null ? -1 : row.length);
            if (row != null) Arrays.stream(row).forEach(all::add);
        }
        for (byte[] text : texts) {
            all.add(text == null ? -1 : text.length);
            for (int i = 0; text != null && i < text.length; i++) all.add((int) text[i]);
        }
        long h = 17;
        for (int v : all) h = 31 * h + v;
        return h;
    }
}
