/** Promises 32 to 34. */
final class EdgesOfShouts {
    private static final int MIN = Integer.MIN_VALUE, MAX = Integer.MAX_VALUE;

    private EdgesOfShouts() {
    }

    static void run() {
        shouted();
        shoutedAside();
        calls();
        callsOrder();
        callsEnds();
        lots();
        lotsOrder();
        lotsFull();
        lotsBySeed();
    }

    private static void shouted() {
        Edge e = new Edge(32, "shouted");
        e.bounds(States::six, "shouted(#)", 0, 63);
        e.bounds(States::two, "shouted(#)", 0, 3);
        e.bounds(States::one, "shouted(#)", 0, 1);
        e.bounds(States::nobody, "shouted(#)", 0, 0);
        e.bounds(States::bare, "shouted(#)", 0, 0);
        e.each(States::bare, "shouted(0) = 15");
        e.each(States::one, "shouted(0) = 14", "shouted(1) = 1");
        e.each(States::six, "shouted(9) = 2", "shouted(10) = 0", "shouted(42) = 4", "shouted(36) = 0",
            "shouted(0) = 0", "shouted(63) = 0");
        e.each(States.town("pppppp"), "shouted(63) = 1", "shouted(62) = 0", "shouted(0) = 14");
    }

    private static void shoutedAside() {
        Edge e = new Edge(32, "shouted, SILENT ones ahead of NOON aside");
        e.goes(States.town("ps"), "shouted(1) = 1", "shouted(3) = 0", "shouted(2) = 0", "noon() = 0",
            "shouted(3) = 1", "shouted(1) = 0");
        e.goes(States.town("ss"), "shouted(0) = 15", "noon() = 0", "shouted(0) = 14", "shouted(3) = 1");
        Edge mute = new Edge(32, "shouted, a MUTE one understands");
        mute.each(States.town("mm"), "shouted(3) = 1", "shouted(0) = 14");
    }

    private static Edge.State sets(String town, int... sets) {
        return () -> {
            TonguesDealt x = States.town(town).made();
            Check.layRow(x, 2, sets);
            x.at(0, 7);
            return x;
        };
    }

    private static void calls() {
        Edge e = new Edge(33, "calls");
        e.bounds(States::six, "calls(#)", 0, 5);
        e.each(States::six, "calls(1) = 1, 1024 by 1", "calls(2) = NOTHING", "calls(0) = SIZE", "calls(3) = SIZE");
        Edge size = new Edge(33, "calls, SIZE: more than 4");
        for (int n = 0; n <= 40; n++) {
            String due = n > 4 ? "SIZE" : n == 4 ? "1, 0 by 1" : n == 0 ? "1, 4 by 1" : "1, " + (4 - n) + " by 1";
            size.each(sets("p", new int[n]), "calls(2) = " + due);
        }
        Edge set = new Edge(33, "calls, UNLIKE: a set that is none");
        for (int i = 0; i < 4; i++) {
            int[] sets = new int[4];
            for (int v : new int[] {-1, 64, MIN, MAX}) {
                sets[i] = v;
                set.each(sets("pppppp", sets), "calls(2) = UNLIKE");
            }
            sets[i] = 63;
            set.each(sets("pppppp", sets), "calls(2) = 1, 1 by 1");
        }
        for (int persons = 1; persons <= 6; persons++) {
            String town = "pppppp".substring(0, persons);
            set.each(sets(town, (1 << persons) - 1), "calls(2) = 1, 1 by 1");
            set.each(sets(town, 1 << persons), "calls(2) = UNLIKE");
        }
    }

    private static void callsOrder() {
        Edge e = new Edge(33, "calls, BAD, STATE, NOTHING, SIZE, UNLIKE in this order");
        e.each(States::bare, "calls(6) = BAD", "calls(-1) = BAD", "calls(0) = STATE");
        e.each(States::nobody, "calls(6) = BAD", "calls(2) = STATE", "calls(0) = STATE", "calls(1) = STATE");
        e.each(sets("pp", 9, 9, 9, 9, 9), "calls(2) = SIZE");
        e.each(sets("pp", 0, 0, 0, 9), "calls(2) = UNLIKE");
    }

    private static void callsEnds() {
        Edge e = new Edge(33, "calls, of no TONGUES: all deals by which houses agree");
        e.each(sets("pppppp"), "calls(2) = 1, 4096 by 1");
        e.each(sets("pppppp a01 a12 a23 a34 a45"), "calls(2) = 1, 4 by 1");
        e.each(sets("pppppp a01 a23 a45"), "calls(2) = 1, 64 by 1");
        e.each(sets("p"), "calls(2) = 1, 4 by 1");
        Edge ahead = new Edge(33, "calls, ahead of NOON whatever it is now");
        ahead.goes(sets("ls", 1), "calls(2) = 1, 4 by 1", "noon() = 0", "calls(2) = 1, 4 by 1", "count(2) = 1");
        ahead.goes(sets("ls", 3), "calls(2) = 1, 0 by 1", "noon() = 0", "calls(2) = 1, 0 by 1");
        ahead.goes(sets("ls", 1), "noon() = 0", "odds(0, 1, 0) = 1, 1 by 1", "calls(2) = 1, 4 by 1",
            "signs(0, 1) = 0, asked 1", "calls(2) = 1, 4 by 1",
            "odds(0, 1, 0) = 1, 1 by 1");
        ahead.goes(sets("ss", 0, 0, 0, 0), "calls(2) = 1, 16 by 1", "noon() = 0", "calls(2) = 1, 16 by 1");
        Edge round = new Edge(33, "calls, behind 3: 0, of the first one the last");
        round.each(sets("d", 1, 0, 0, 1), "calls(2) = 1, 1 by 1");
        round.each(sets("d", 1, 1, 0, 0), "calls(2) = 1, 1 by 1");
        round.each(sets("d", 1, 0, 1, 0), "calls(2) = 1, 0 by 1");
        round.each(sets("tp", 1, 3, 0, 0), "calls(2) = 1, 1 by 1");
        round.each(sets("tp", 2, 1, 0, 0), "calls(2) = 1, 0 by 1");
    }

    private static void lots() {
        Edge e = new Edge(34, "lots");
        e.bounds(States::six, "lots(#, 1)", 1, 20);
        e.outside(States::six, "lots(1, #)", MIN, -1, 0, MAX);
        e.each(States.town("pp a01"), "lots(1, 1) = 1", "lots(1, 2147483646) = 1", "lots(20, 1) = 20",
            "lots(20, 2147483646) = 20",
            "lots(1, 0) = BAD", "lots(1, MAX) = BAD", "lots(0, 1) = BAD", "lots(21, 1) = BAD");
        e.each(States.town("mp a01"), "lots(20, 7) = 0");
        Edge deeds = new Edge(34, "lots, n MORNINGS");
        deeds.goes(States::sixNoon, "lots(20, 5) = 19", "count(1) = 21", "count(2) = 0", "count(4) = 22",
            "undo(21) = 1", "count(1) = 20");
    }

    private static void lotsOrder() {
        Edge e = new Edge(34, "lots, BAD ahead of STATE: fewer than two PERSONS");
        e.each(States::bare, "lots(0, 1) = BAD", "lots(21, 1) = BAD", "lots(1, 0) = BAD", "lots(1, MAX) = BAD",
            "lots(1, 1) = STATE");
        e.each(States::nobody, "lots(20, 2147483646) = STATE", "lots(MAX, MIN) = BAD");
        e.each(States::one, "lots(0, 1) = BAD", "lots(1, -1) = BAD", "lots(1, 1) = STATE", "lots(20, 1) = STATE");
        e.each(States::two, "lots(20, 1) = 5");
        Edge full = new Edge(34, "lots, FULL last");
        full.each(States::oneFull, "lots(1, 1) = STATE", "lots(20, 1) = STATE", "lots(21, 1) = BAD");
        full.each(States::sixFull, "lots(0, 1) = BAD", "lots(1, 0) = BAD", "lots(1, 1) = FULL", "lots(20, 1) = FULL");
    }

    private static void lotsFull() {
        Edge e = new Edge(34, "lots, FULL: with n more there would be more than 40 DEEDS");
        e.each(States::sixAlmostFull, "lots(2, 1) = FULL", "lots(20, 1) = FULL");
        e.goes(States::sixAlmostFull, "lots(2, 1) = FULL", "count(4) = 39", "lots(1, 1) = 1", "count(4) = 40",
            "lots(1, 1) = FULL");
        e.goes(States.town("pp a01"), "noon() = 0", "lots(20, 1) = 20", "lots(20, 1) = FULL", "lots(19, 1) = 19",
            "count(4) = 40",
            "lots(1, 1) = FULL", "undo(20) = 20", "lots(20, 9) = 20", "count(4) = 40", "count(1) = 39");
    }

    /** What is DEALT by a seed, counted anew. */
    private static void lotsBySeed() {
        Edge e = new Edge(34, "lots, numbers from the least seed to the largest");
        for (int seed : new int[] {1, 2, 8, 48271, 1073741823, 2147483645, 2147483646}) {
            TonguesDealt x = States.town("pppppp a13 a30").made();
            x.lots(20, seed);
            long lot = seed;
            for (int i = 0; i < 76; i++) lot = lot * 48271 % 2147483647;
            int[] dealt = new int[4];
            for (int i = 0; i < 4; i++) {
                lot = lot * 48271 % 2147483647;
                dealt[i] = (int) (lot / 8 % 4);
            }
            // 0, 1 and 3 are dealt alike, so one number is for these
            int[] numbers = {0, 0, 1, 0, 2, 3};
            for (int p = 0; p < 6; p++) {
                x.person(p, 1);
                e.due("by " + seed + " DEALT to " + p, x.asked(), dealt[numbers[p]]);
            }
        }
    }
}
