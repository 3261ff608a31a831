/**
 * A town whose persons wake each morning with one of four tongues: who understands whom, by which
 * mouths an order goes, what holds whatever is dealt. The document's words stand in capitals.
 */
public final class TonguesDealt {
    public static final int BAD = -1, FULL = -2, FINDING = -3, STATE = -4, SPENT = -6, NONE = -9;

    private static final int NOTHING = 1, BEYOND = 2, UNLIKE = 3, NOUGHT = 4, SIZE = 5;
    private static final int FINDINGS = 5;

    private static final int MISSING = -1;
    private static final int ROWS = 6, ROW_PLACES = 40;
    private static final int TEXTS = 4, TEXT_PLACES = 60;
    private static final int MOST_PERSONS = 6, ANYBODY = 63, MOST_DEEDS = 40, KEPT_TOWNS = 3;
    private static final int TONGUES = 4;
    private static final int RULES = 4, MOST_MOUTHS = 4, MOST_LOTS = 20;
    private static final int TOLD_OF_PERSONS = 5, COUNTS = 9;

    private static final int LEARNER = 1, MUTE = 2, DOUBLE = 3, SILENT = 4, TWIN = 5, KINDS = 6;
    private static final char[] LETTERS = {'p', 'l', 'm', 'd', 's', 't'};
    /** The KIND that each KIND is besides; -1: none. */
    private static final int[] BESIDES = {-1, 0, 0, 1, 2, 0};

    private static final int MORNING = 0, NOON = 1, SIGN = 2;

    private static final long LOT_FACTOR = 48271, LOT_MODULUS = 2147483647;

    private final Row[] rows = new Row[ROWS];
    private final Text[] texts = new Text[TEXTS];
    private final Deeds[] kept = new Deeds[KEPT_TOWNS];
    private final Deeds deeds = new Deeds();
    private final Day now = new Day();
    /** A day for deals that are only thought of, so that asking changes nothing. */
    private final Day trial = new Day();
    private Plan plan = new Plan();
    /** A plan that is read ahead of being taken, so that a FAULT changes nothing. */
    private Plan draft = new Plan();
    /** Of each PERSON those with whom one SIGN more still does by every deal looked at. */
    private final int[] helpful = new int[MOST_PERSONS];
    private final int[] findingCounts = new int[FINDINGS + 1];
    private int latestFinding = 0;
    private int latestAsked = 0;
    private long latestUpper = 0;
    private long latestLower = 1;

    public TonguesDealt() {
        for (int r = 0; r < ROWS; r++) rows[r] = new Row();
        for (int t = 0; t < TEXTS; t++) texts[t] = new Text();
        for (int k = 0; k < KEPT_TOWNS; k++) {
            kept[k] = new Deeds();
            kept[k].size = MISSING;
        }
    }

    // ---- 1 rows, texts, towns

    public int row(int r, int n) {
        if (!isRow(r) || n > ROW_PLACES) return BAD;
        if (n < 0) return found(SIZE);
        rows[r].begin(n);
        return n;
    }

    public int lay(int r, int i, int v) {
        if (!isRow(r)) return BAD;
        Row row = rows[r];
        if (row.size == MISSING) return found(NOTHING);
        if (!row.has(i)) return found(BEYOND);
        latestAsked = row.places[i];
        row.places[i] = v;
        return 1;
    }

    public int at(int r, int i) {
        if (!isRow(r)) return BAD;
        Row row = rows[r];
        if (row.size == MISSING) return found(NOTHING);
        if (!row.has(i)) return found(BEYOND);
        latestAsked = row.places[i];
        return 1;
    }

    public int tear(int r) {
        if (!isRow(r)) return BAD;
        if (rows[r].size == MISSING) return found(NOTHING);
        rows[r].size = MISSING;
        return 1;
    }

    public int copy(int r, int i, int to, int j, int n) {
        if (!isRow(r) || !isRow(to)) return BAD;
        if (n < 0) return found(SIZE);
        Row from = rows[r];
        Row into = rows[to];
        if (from.size == MISSING || into.size == MISSING) return found(NOTHING);
        if (!from.hasFrom(i, n) || !into.hasFrom(j, n)) return found(BEYOND);
        System.arraycopy(from.places, i, into.places, j, n);
        return 1;
    }

    public int mean(int r) {
        if (!isRow(r)) return BAD;
        Row row = rows[r];
        if (row.size == MISSING) return found(NOTHING);
        if (row.size == 0) return found(NOUGHT);
        latestAsked = (int) (row.sum() / row.size);
        return 1;
    }

    public int text(int t, int n) {
        if (!isText(t) || n > TEXT_PLACES) return BAD;
        if (n < 0) return found(SIZE);
        texts[t].begin(n);
        return n;
    }

    public int put(int t, int i, int v) {
        if (!isText(t)) return BAD;
        Text text = texts[t];
        if (text.size == MISSING) return found(NOTHING);
        if (i < 0 || i >= text.size) return found(BEYOND);
        int before = text.bytes[i];
        text.bytes[i] = (byte) v;
        return before + 1000;
    }

    public int fault(int t) {
        if (!isText(t)) return BAD;
        if (texts[t].size == MISSING) return found(NOTHING);
        return draft.read(texts[t]);
    }

    public int town(int t) {
        if (!isText(t)) return BAD;
        if (texts[t].size == MISSING) return found(NOTHING);
        if (draft.read(texts[t]) != NONE) return STATE;
        Plan before = plan;
        plan = draft;
        draft = before;
        for (int k = 0; k < KEPT_TOWNS; k++) kept[k].size = MISSING;
        deeds.size = 0;
        liveAgain();
        return plan.persons;
    }

    public int person(int p, int what) {
        if (!plan.has(p) || what < 0 || what >= TOLD_OF_PERSONS) return BAD;
        latestAsked = toldOf(p, what);
        return 1;
    }

    public int mark(int p, int kind) {
        if (!plan.has(p) || kind < LEARNER || kind >= KINDS) return BAD;
        if (!plan.is(p, kind)) return found(UNLIKE);
        switch (kind) {
            case LEARNER: return plan.gainOf(p, now.dealt);
            case MUTE: return now.tellersOf(p);
            case DOUBLE: return now.othersWhoKnow(p, 1 << (now.dealt[p] + 1) % TONGUES);
            case SILENT: return now.othersWhoKnow(p, now.knows[p]);
            default: return Integer.bitCount(now.knows[p]);
        }
    }

    // ---- 2 deeds

    public int deal(int r) {
        if (!isRow(r)) return BAD;
        if (plan.persons == 0) return STATE;
        Row row = rows[r];
        if (row.size == MISSING) return found(NOTHING);
        if (row.size != plan.persons) return found(SIZE);
        if (!row.allBelow(TONGUES) || !plan.agrees(row.places, 0)) return found(UNLIKE);
        if (deeds.size >= MOST_DEEDS) return FULL;
        act(MORNING, plan.dealNumber(row.places));
        return now.morning;
    }

    public int noon() {
        if (plan.persons == 0 || now.noon) return STATE;
        if (deeds.size >= MOST_DEEDS) return FULL;
        act(NOON, 0);
        int more = 0;
        for (int p = 0; p < plan.persons; p++) {
            if (plan.gainOf(p, now.dealt) > 0) more++;
        }
        return more;
    }

    public int sign(int p, int q) {
        if (!areTwo(p, q)) return BAD;
        if (holds(now.signs[p], q)) return STATE;
        if (deeds.size >= MOST_DEEDS) return FULL;
        act(SIGN, p * MOST_PERSONS + q);
        return now.signCount();
    }

    public int undo(int n) {
        if (n < 0 || n > deeds.size) return BAD;
        int undone = deeds.size - n;
        deeds.size = n;
        liveAgain();
        return undone;
    }

    public int keep(int k) {
        if (k < 0 || k >= KEPT_TOWNS) return BAD;
        if (plan.persons == 0) return STATE;
        kept[k].takeFrom(deeds);
        return deeds.size;
    }

    public int on(int k) {
        if (k < 0 || k >= KEPT_TOWNS) return BAD;
        if (kept[k].size == MISSING) return found(NOTHING);
        deeds.takeFrom(kept[k]);
        liveAgain();
        return deeds.size;
    }

    // ---- 3 who tells whom

    public int tells(int p, int q) {
        if (!areTwo(p, q)) return BAD;
        return holds(now.tells[p], q) ? 1 : 0;
    }

    public int order(int p, int q, int r) {
        if (!areTwo(p, q) || !isRow(r)) return BAD;
        int mouths = now.fewestMouths(p, q);
        if (mouths == NONE) return NONE;
        writeWay(p, q, mouths, rows[r]);
        return mouths;
    }

    public int needs(int p, int q) {
        if (!areTwo(p, q)) return BAD;
        int others = plan.everybody() & ~(1 << p | 1 << q);
        if (!now.goes(p, q, others)) {
            latestAsked = 0;
            return others;
        }
        latestAsked = 1;
        int needed = 0;
        for (int m = 0; m < plan.persons; m++) {
            if (holds(others, m) && !now.goes(p, q, others & ~(1 << m))) needed |= 1 << m;
        }
        return needed;
    }

    public int crew() {
        if (plan.persons == 0) return STATE;
        int largest = 0;
        int size = 0;
        for (int set = 1; set <= plan.everybody(); set++) {
            int members = Integer.bitCount(set);
            if (members > size && now.isCrew(set)) {
                largest = set;
                size = members;
            }
        }
        latestAsked = largest;
        return size;
    }

    public int reach(int p) {
        if (!plan.has(p)) return BAD;
        return now.reached(p, ANYBODY, MOST_PERSONS);
    }

    public int crier() {
        if (plan.persons == 0) return STATE;
        int first = 0;
        int most = -1;
        for (int p = 0; p < plan.persons; p++) {
            int others = Integer.bitCount(now.reached(p, ANYBODY, MOST_PERSONS)) - 1;
            if (others > most) {
                first = p;
                most = others;
            }
        }
        latestAsked = most;
        return first;
    }

    // ---- 4 whatever is dealt

    public int signs(int p, int q) {
        if (!areTwo(p, q)) return BAD;
        trial.takeTermsFrom(now);
        allowSigns(p, q);
        int always = plan.everybody();
        int deals = plan.dealsUpToTurning();
        for (int d = 0; d < deals; d++) {
            trial.thinkOf(plan, d * TONGUES);
            int told = trial.reached(p, ANYBODY, MOST_PERSONS);
            always &= told;
            if (!holds(told, q)) dropUselessSigns(told, trial.reaching(q));
        }
        latestAsked = Integer.bitCount(always) - 1;
        if (holds(always, q)) return 0;
        if (isSignLeft()) return 1;
        // a third person can know a sign with each of the two
        return plan.persons > 2 ? 2 : NONE;
    }

    public int odds(int p, int q, int n) {
        if (!areTwo(p, q) || n < 0 || n > MOST_MOUTHS) return BAD;
        trial.takeTermsFrom(now);
        int deals = plan.dealsUpToTurning();
        int going = 0;
        for (int d = 0; d < deals; d++) {
            trial.thinkOf(plan, d * TONGUES);
            if (holds(trial.reached(p, ANYBODY, n + 1), q)) going++;
        }
        tellFraction(going, deals);
        return 1;
    }

    public int part(int p, int q, int mouth) {
        if (!areTwo(p, q) || !plan.has(mouth) || mouth == p || mouth == q) return BAD;
        int rest = plan.everybody() & ~(1 << p | 1 << q | 1 << mouth);
        if (now.goes(p, q, 0) || !now.goes(p, q, rest | 1 << mouth)) return STATE;
        int others = Integer.bitCount(rest);
        int owed = 0;
        for (int set = 0; set <= rest; set++) {
            if ((set & ~rest) != 0 || now.goes(p, q, set)) continue;
            if (!now.goes(p, q, set | 1 << mouth)) continue;
            // in so many orders just these come ahead of the mouth
            int ahead = Integer.bitCount(set);
            owed += factorial(ahead) * factorial(others - ahead);
        }
        tellFraction(owed, factorial(others + 1));
        return 1;
    }

    // ---- 5 mornings

    public int houses(int r) {
        if (!isRow(r)) return BAD;
        int refusal = refusedMornings(rows[r]);
        if (refusal != 0) return refusal;
        int mornings = morningsIn(rows[r]);
        int pairs = 0;
        int members = 0;
        for (int p = 0; p < plan.persons; p++) {
            for (int q = p + 1; q < plan.persons; q++) {
                if (!rows[r].alwaysAlike(p, q, plan.persons, mornings)) continue;
                pairs++;
                members |= 1 << p | 1 << q;
            }
        }
        latestAsked = members;
        return pairs;
    }

    public int rule(int r, int which) {
        if (!isRow(r) || which < 0 || which >= RULES) return BAD;
        int refusal = refusedMornings(rows[r]);
        if (refusal != 0) return refusal;
        int mornings = morningsIn(rows[r]);
        int obeying = 0;
        for (int p = 0; p < plan.persons; p++) {
            if (rows[r].obeys(p, plan.persons, mornings, which)) obeying |= 1 << p;
        }
        return obeying;
    }

    public int broken(int r) {
        if (!isRow(r)) return BAD;
        int refusal = refusedMornings(rows[r]);
        if (refusal != 0) return refusal;
        int mornings = morningsIn(rows[r]);
        for (int m = 0; m < mornings; m++) {
            if (!plan.agrees(rows[r].places, m * plan.persons)) return m;
        }
        return NONE;
    }

    // ---- 6 shouts, calls, lots

    public int shouted(int set) {
        if (!plan.isSet(set)) return BAD;
        int can = 0;
        for (int tongue = 0; tongue < TONGUES; tongue++) {
            if (now.hearers[tongue] == set) can |= 1 << tongue;
        }
        return can;
    }

    public int calls(int r) {
        if (!isRow(r)) return BAD;
        if (plan.persons == 0) return STATE;
        Row row = rows[r];
        if (row.size == MISSING) return found(NOTHING);
        if (row.size > TONGUES) return found(SIZE);
        if (!row.allBelow(plan.everybody() + 1)) return found(UNLIKE);
        int fitting = 0;
        trial.noon = false;
        for (int d = 0; d < plan.deals(); d++) {
            trial.dealOut(plan, d);
            trial.learn(plan);
            if (trial.isHeardAs(row)) fitting++;
        }
        tellFraction(fitting, 1);
        return 1;
    }

    public int lots(int n, int seed) {
        if (n < 1 || n > MOST_LOTS || seed < 1 || seed >= LOT_MODULUS) return BAD;
        if (plan.persons < 2) return STATE;
        if (deeds.size + n > MOST_DEEDS) return FULL;
        int last = plan.persons - 1;
        int going = 0;
        long lot = seed;
        for (int m = 0; m < n; m++) {
            int dealNumber = 0;
            for (int g = 0; g < plan.groups; g++) {
                lot = lot * LOT_FACTOR % LOT_MODULUS;
                dealNumber |= (int) (lot / 8 % TONGUES) << 2 * g;
            }
            act(MORNING, dealNumber);
            if (now.goes(0, last, ANYBODY)) going++;
        }
        return going;
    }

    // ---- 7 what is told

    public int asked() {
        return latestAsked;
    }

    public long upper() {
        return latestUpper;
    }

    public long lower() {
        return latestLower;
    }

    public int count(int what) {
        if (what < 0 || what >= COUNTS) return BAD;
        return counted(what);
    }

    public int finding() {
        return latestFinding;
    }

    public int findings(int f) {
        if (f < 1 || f > FINDINGS) return BAD;
        return findingCounts[f];
    }

    public long digest() {
        long h = 17;
        for (int what = 0; what < COUNTS; what++) h = 31 * h + counted(what);
        for (int p = 0; p < plan.persons; p++) {
            for (int what = 0; what < TOLD_OF_PERSONS; what++) h = 31 * h + toldOf(p, what);
        }
        for (int k = 0; k < KEPT_TOWNS; k++) h = 31 * h + kept[k].size;
        for (int r = 0; r < ROWS; r++) h = rows[r].mixInto(h);
        for (int t = 0; t < TEXTS; t++) h = texts[t].mixInto(h);
        return h;
    }

    // ---- what the calls share

    private static boolean isRow(int r) {
        return r >= 0 && r < ROWS;
    }

    private static boolean isText(int t) {
        return t >= 0 && t < TEXTS;
    }

    private boolean areTwo(int p, int q) {
        return plan.has(p) && plan.has(q) && p != q;
    }

    private static boolean holds(int set, int p) {
        return (set >> p & 1) != 0;
    }

    private int found(int finding) {
        latestFinding = finding;
        findingCounts[finding]++;
        return FINDING;
    }

    private void tellFraction(int upperNumber, int lowerNumber) {
        int divisor = commonDivisor(upperNumber, lowerNumber);
        if (divisor == 0) return;
        latestUpper = upperNumber / divisor;
        latestLower = lowerNumber / divisor;
    }

    private static int commonDivisor(int a, int b) {
        // each round makes the lesser number less, so far fewer than a thousand are needed
        for (int round = 0; round < 1000 && b != 0; round++) {
            int rest = a % b;
            a = b;
            b = rest;
        }
        return a;
    }

    private static int factorial(int n) {
        int product = 1;
        for (int i = 2; i <= n; i++) product *= i;
        return product;
    }

    private int toldOf(int p, int what) {
        switch (what) {
            case 0: return plan.kinds[p];
            case 1: return now.dealt[p];
            case 2: return now.knows[p];
            case 3: return plan.alike[p];
            default: return now.signs[p];
        }
    }

    private int counted(int what) {
        switch (what) {
            case 0: return plan.persons;
            case 1: return now.morning;
            case 2: return now.noon ? 1 : 0;
            case 3: return now.signCount();
            case 4: return deeds.size;
            case 5: return Integer.bitCount(plan.members[LEARNER]);
            case 6: return rowsThere();
            case 7: return textsThere();
            default: return keptThere();
        }
    }

    private int rowsThere() {
        int there = 0;
        for (int r = 0; r < ROWS; r++) {
            if (rows[r].size != MISSING) there++;
        }
        return there;
    }

    private int textsThere() {
        int there = 0;
        for (int t = 0; t < TEXTS; t++) {
            if (texts[t].size != MISSING) there++;
        }
        return there;
    }

    private int keptThere() {
        int there = 0;
        for (int k = 0; k < KEPT_TOWNS; k++) {
            if (kept[k].size != MISSING) there++;
        }
        return there;
    }

    /** Does a DEED for which there is room. */
    private void act(int sort, int detail) {
        deeds.add(sort, detail);
        now.live(sort, detail, plan);
        now.settle(plan);
    }

    /** Undone deeds leave no trace, so the days are lived again from MORNING 0 on. */
    private void liveAgain() {
        now.begin(plan);
        for (int i = 0; i < deeds.size; i++) now.live(deeds.sorts[i], deeds.details[i], plan);
        now.settle(plan);
    }

    /** Each step takes the least PERSON from whom the rest of the way is short enough. */
    private void writeWay(int p, int q, int mouths, Row row) {
        row.begin(mouths + 2);
        row.places[0] = p;
        row.places[mouths + 1] = q;
        int from = p;
        for (int i = 1; i <= mouths; i++) {
            int next = 0;
            for (int m = plan.persons - 1; m >= 0; m--) {
                boolean told = m != q && holds(now.tells[from], m);
                if (told && now.fewestMouths(m, q) == mouths - i) next = m;
            }
            row.places[i] = next;
            from = next;
        }
    }

    /** All SIGNS but one between p and q themselves may still do. */
    private void allowSigns(int p, int q) {
        for (int x = 0; x < plan.persons; x++) helpful[x] = plan.everybody() & ~(1 << x);
        helpful[p] &= ~(1 << q);
        helpful[q] &= ~(1 << p);
    }

    /** By a deal by which no ORDER goes, only a SIGN from those told to those heard helps. */
    private void dropUselessSigns(int told, int heard) {
        for (int x = 0; x < plan.persons; x++) {
            int partners = holds(told, x) ? heard : 0;
            if (holds(heard, x)) partners |= told;
            helpful[x] &= partners;
        }
    }

    private boolean isSignLeft() {
        for (int x = 0; x < plan.persons; x++) {
            if (helpful[x] != 0) return true;
        }
        return false;
    }

    /** The refusal that calls about mornings share; 0: none. */
    private int refusedMornings(Row row) {
        if (plan.persons == 0) return STATE;
        if (row.size == MISSING) return found(NOTHING);
        if (row.size % plan.persons != 0) return found(SIZE);
        if (!row.allBelow(TONGUES)) return found(UNLIKE);
        return 0;
    }

    private int morningsIn(Row row) {
        return plan.persons > 0 ? row.size / plan.persons : 0;
    }

    /** A row of ints, or missing. */
    private static final class Row {
        final int[] places = new int[ROW_PLACES];
        int size = MISSING;

        void begin(int n) {
            size = n;
            for (int i = 0; i < n; i++) places[i] = 0;
        }

        boolean has(int i) {
            return i >= 0 && i < size;
        }

        boolean hasFrom(int i, int n) {
            return i >= 0 && i <= size - n;
        }

        long sum() {
            long sum = 0;
            for (int i = 0; i < size; i++) sum += places[i];
            return sum;
        }

        boolean allBelow(int bound) {
            for (int i = 0; i < size; i++) {
                if (places[i] < 0 || places[i] >= bound) return false;
            }
            return true;
        }

        boolean alwaysAlike(int p, int q, int persons, int mornings) {
            for (int m = 0; m < mornings; m++) {
                if (places[m * persons + p] != places[m * persons + q]) return false;
            }
            return true;
        }

        boolean obeys(int p, int persons, int mornings, int which) {
            int seen = 0;
            for (int m = 0; m < mornings; m++) {
                int i = m * persons + p;
                if (m > 0 && !follows(places[i - persons], places[i], seen, which)) return false;
                seen |= 1 << places[i];
            }
            return true;
        }

        private static boolean follows(int before, int tongue, int seen, int which) {
            switch (which) {
                case 0: return tongue == before;
                case 1: return tongue == (before + 1) % TONGUES;
                case 2: return tongue != before;
                default: return !holds(seen, tongue);
            }
        }

        long mixInto(long h) {
            h = 31 * h + size;
            for (int i = 0; i < size; i++) h = 31 * h + places[i];
            return h;
        }
    }

    /** A row of bytes, or missing. */
    private static final class Text {
        final byte[] bytes = new byte[TEXT_PLACES];
        int size = MISSING;

        void begin(int n) {
            size = n;
            for (int i = 0; i < n; i++) bytes[i] = ' ';
        }

        long mixInto(long h) {
            h = 31 * h + size;
            for (int i = 0; i < size; i++) h = 31 * h + bytes[i];
            return h;
        }
    }

    /** What was done since MORNING 0, which tells the TOWN as it is. */
    private static final class Deeds {
        final int[] sorts = new int[MOST_DEEDS];
        final int[] details = new int[MOST_DEEDS];
        int size = 0;

        void add(int sort, int detail) {
            if (size >= MOST_DEEDS) return;
            sorts[size] = sort;
            details[size] = detail;
            size++;
        }

        void takeFrom(Deeds other) {
            for (int i = 0; i < other.size; i++) {
                sorts[i] = other.sorts[i];
                details[i] = other.details[i];
            }
            size = other.size;
        }
    }

    /** What a TEXT says of a TOWN: it stays as it is, whatever is done there. */
    private static final class Plan {
        final int[] kinds = new int[MOST_PERSONS];
        /** Of each KIND the PERSONS that are of it (bits). */
        final int[] members = new int[KINDS];
        /** Of each PERSON those with whom the TEXT tells a HOUSE. */
        final int[] housed = new int[MOST_PERSONS];
        final int[] signs = new int[MOST_PERSONS];
        /** Of each PERSON those who are dealt as it is, itself, too. */
        final int[] alike = new int[MOST_PERSONS];
        /** Of each PERSON the least one who is dealt as it is. */
        final int[] leader = new int[MOST_PERSONS];
        /** Those dealt alike are a group; groups are numbered by their leaders. */
        final int[] group = new int[MOST_PERSONS];
        int groups = 0;
        int persons = 0;

        /** Reads a TEXT: its FAULT, or NONE. */
        int read(Text text) {
            begin();
            boolean tied = false;
            for (int i = 0; i < text.size; i++) {
                int letter = text.bytes[i];
                if (letter == ' ') continue;
                int kind = kindOf(letter);
                if (kind != NONE) {
                    if (tied || persons >= MOST_PERSONS) return i;
                    addPerson(kind);
                    continue;
                }
                if (letter != 'a' && letter != 'g' || persons == 0) return i;
                int wrong = readTie(text, i, letter == 'a' ? housed : signs);
                if (wrong != NONE) return wrong;
                tied = true;
                i += 2;
            }
            if (persons == 0) return text.size;
            joinHouses();
            return NONE;
        }

        private void begin() {
            persons = 0;
            for (int k = 0; k < KINDS; k++) members[k] = 0;
            for (int p = 0; p < MOST_PERSONS; p++) {
                housed[p] = 0;
                signs[p] = 0;
            }
        }

        private static int kindOf(int letter) {
            for (int k = 0; k < KINDS; k++) {
                if (LETTERS[k] == letter) return k;
            }
            return NONE;
        }

        private void addPerson(int kind) {
            kinds[persons] = kind;
            int is = kind;
            for (int k = 0; k < KINDS && is >= 0; k++) {
                members[is] |= 1 << persons;
                is = BESIDES[is];
            }
            persons++;
        }

        /** Reads the two figures behind the letter at i: where it can't go on, or NONE. */
        private int readTie(Text text, int i, int[] ties) {
            if (i + 1 >= text.size) return text.size;
            int one = text.bytes[i + 1] - '0';
            if (!has(one)) return i + 1;
            if (i + 2 >= text.size) return text.size;
            int other = text.bytes[i + 2] - '0';
            if (!has(other) || other == one || holds(ties[one], other)) return i + 2;
            ties[one] |= 1 << other;
            ties[other] |= 1 << one;
            return NONE;
        }

        private void joinHouses() {
            for (int p = 0; p < persons; p++) alike[p] = housed[p] | 1 << p;
            // a chain of houses has at most as many links as there are persons
            for (int round = 0; round < persons; round++) {
                for (int p = 0; p < persons; p++) {
                    for (int q = 0; q < persons; q++) {
                        if (holds(alike[p], q)) alike[p] |= alike[q];
                    }
                }
            }
            groups = 0;
            for (int p = 0; p < persons; p++) {
                leader[p] = leastOf(alike[p], p);
                group[p] = leader[p] == p ? groups++ : group[leader[p]];
            }
        }

        private static int leastOf(int set, int most) {
            for (int p = 0; p < most; p++) {
                if (holds(set, p)) return p;
            }
            return most;
        }

        boolean has(int p) {
            return p >= 0 && p < persons;
        }

        boolean is(int p, int kind) {
            return holds(members[kind], p);
        }

        int everybody() {
            return (1 << persons) - 1;
        }

        boolean isSet(int set) {
            return set >= 0 && set <= everybody();
        }

        /** Whether each house agrees by the deal that begins at a place. */
        boolean agrees(int[] tongues, int start) {
            for (int p = 0; p < persons; p++) {
                if (tongues[start + p] != tongues[start + leader[p]]) return false;
            }
            return true;
        }

        /** The number of a deal has two bits for each group. */
        int dealNumber(int[] tongues) {
            int number = 0;
            for (int p = 0; p < persons; p++) number |= tongues[p] << 2 * group[p];
            return number;
        }

        int deals() {
            return 1 << 2 * groups;
        }

        /**
         * How many deals there are if those which come from each other by turning all TONGUES
         * alike count once: who understands whom is the same by them, so it is enough to look at
         * those whose first group has TONGUE 0, the numbers of which are 0, 4, 8, ..
         */
        int dealsUpToTurning() {
            return deals() / TONGUES;
        }

        int knownBy(int p, int[] dealt, boolean noon) {
            int known = 1 << dealt[p];
            if (noon && is(p, LEARNER)) known |= 1 << dealt[p + 1 < persons ? p + 1 : 0];
            if (is(p, DOUBLE)) known |= 1 << (dealt[p] + 1) % TONGUES;
            if (is(p, TWIN)) known |= 1 << dealt[p > 0 ? p - 1 : persons - 1];
            return known;
        }

        /** How many TONGUES more a PERSON KNOWS from NOON on. */
        int gainOf(int p, int[] dealt) {
            int behind = Integer.bitCount(knownBy(p, dealt, true));
            return behind - Integer.bitCount(knownBy(p, dealt, false));
        }
    }

    /** What was dealt, the hour, the SIGNS, and who TELLS whom by these. */
    private static final class Day {
        final int[] dealt = new int[MOST_PERSONS];
        final int[] signs = new int[MOST_PERSONS];
        final int[] knows = new int[MOST_PERSONS];
        /** Of each TONGUE those who understand a shout in it. */
        final int[] hearers = new int[TONGUES];
        final int[] tells = new int[MOST_PERSONS];
        int persons = 0;
        int morning = 0;
        boolean noon = false;

        void begin(Plan plan) {
            persons = plan.persons;
            morning = 0;
            noon = false;
            for (int p = 0; p < persons; p++) {
                dealt[p] = 0;
                signs[p] = plan.signs[p];
            }
        }

        void takeTermsFrom(Day other) {
            persons = other.persons;
            noon = other.noon;
            for (int p = 0; p < persons; p++) signs[p] = other.signs[p];
        }

        /** What a DEED changes; settle() comes behind the last one. */
        void live(int sort, int detail, Plan plan) {
            if (sort == MORNING) {
                morning++;
                noon = false;
                dealOut(plan, detail);
            } else if (sort == NOON) {
                noon = true;
            } else {
                int p = detail / MOST_PERSONS;
                int q = detail % MOST_PERSONS;
                signs[p] |= 1 << q;
                signs[q] |= 1 << p;
            }
        }

        void dealOut(Plan plan, int dealNumber) {
            for (int p = 0; p < plan.persons; p++) {
                dealt[p] = (dealNumber >> 2 * plan.group[p]) % TONGUES;
            }
        }

        void thinkOf(Plan plan, int dealNumber) {
            dealOut(plan, dealNumber);
            settle(plan);
        }

        void settle(Plan plan) {
            learn(plan);
            for (int p = 0; p < plan.persons; p++) {
                int told = signs[p];
                if (!plan.is(p, MUTE)) told |= hearersOfAny(knows[p]);
                tells[p] = told & ~(1 << p);
            }
        }

        /** Who KNOWS and who understands which TONGUES. */
        void learn(Plan plan) {
            for (int tongue = 0; tongue < TONGUES; tongue++) hearers[tongue] = 0;
            for (int p = 0; p < plan.persons; p++) {
                knows[p] = plan.knownBy(p, dealt, noon);
                if (!noon && plan.is(p, SILENT)) continue;
                for (int tongue = 0; tongue < TONGUES; tongue++) {
                    if (holds(knows[p], tongue)) hearers[tongue] |= 1 << p;
                }
            }
        }

        private int hearersOfAny(int tongues) {
            int all = 0;
            for (int tongue = 0; tongue < TONGUES; tongue++) {
                if (holds(tongues, tongue)) all |= hearers[tongue];
            }
            return all;
        }

        boolean isHeardAs(Row sets) {
            for (int tongue = 0; tongue < sets.size && tongue < TONGUES; tongue++) {
                if (hearers[tongue] != sets.places[tongue]) return false;
            }
            return true;
        }

        int signCount() {
            int ends = 0;
            for (int p = 0; p < persons; p++) ends += Integer.bitCount(signs[p]);
            return ends / 2;
        }

        int tellersOf(int p) {
            int tellers = 0;
            for (int q = 0; q < persons; q++) {
                if (holds(tells[q], p)) tellers++;
            }
            return tellers;
        }

        int othersWhoKnow(int p, int tongues) {
            int others = 0;
            for (int q = 0; q < persons; q++) {
                if (q != p && (knows[q] & tongues) != 0) others++;
            }
            return others;
        }

        boolean isCrew(int set) {
            for (int p = 0; p < persons; p++) {
                if (holds(set, p) && (set & ~(1 << p) & ~tells[p]) != 0) return false;
            }
            return true;
        }

        /** Those whom an ORDER from p reaches in so many steps, if only some pass it on. */
        int reached(int p, int mouths, int steps) {
            int all = 1 << p;
            int fresh = all;
            for (int s = 0; s < steps && fresh != 0; s++) {
                int told = 0;
                for (int m = 0; m < persons; m++) {
                    if (holds(fresh, m)) told |= tells[m];
                }
                fresh = told & ~all & mouths;
                all |= told;
            }
            return all;
        }

        /** Those from whom an ORDER reaches q. */
        int reaching(int q) {
            int all = 1 << q;
            for (int round = 0; round < persons; round++) {
                for (int m = 0; m < persons; m++) {
                    if ((tells[m] & all) != 0) all |= 1 << m;
                }
            }
            return all;
        }

        boolean goes(int p, int q, int mouths) {
            return holds(reached(p, mouths, MOST_PERSONS), q);
        }

        int fewestMouths(int p, int q) {
            for (int mouths = 0; mouths <= MOST_MOUTHS; mouths++) {
                if (holds(reached(p, ANYBODY, mouths + 1), q)) return mouths;
            }
            return NONE;
        }
    }
}
