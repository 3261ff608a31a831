import java.lang.management.ManagementFactory;

/** All calls of a run live in one room, so calls make nothing and an object is small. */
public final class RoomTest {
    private static final int OBJECTS = 100, OBJECT_BYTES = 8000;

    private static long made() {
        com.sun.management.ThreadMXBean bean =
            (com.sun.management.ThreadMXBean) ManagementFactory.getThreadMXBean();
        return bean.getThreadAllocatedBytes(Thread.currentThread().getId());
    }

    public static void main(String[] args) {
        TonguesDealt[] all = new TonguesDealt[OBJECTS];
        made();
        long before = made();
        for (int i = 0; i < OBJECTS; i++) all[i] = new TonguesDealt();
        long objects = made() - before;
        Check.holds("an object is small, not " + objects / OBJECTS, objects / OBJECTS < OBJECT_BYTES);
        byte[] text = "dltspd a04 g12".getBytes();
        calls(all[0], text);
        before = made();
        for (int i = 1; i < OBJECTS; i++) calls(all[i], text);
        long byCalls = made() - before;
        Check.holds("calls make nothing, not " + byCalls / (OBJECTS - 1), byCalls / (OBJECTS - 1) < 100);
        Check.end("RoomTest");
    }

    private static void calls(TonguesDealt x, byte[] text) {
        x.text(0, text.length);
        for (int i = 0; i < text.length; i++) x.put(0, i, text[i]);
        x.fault(0);
        x.town(0);
        x.row(0, 6);
        x.deal(0);
        x.noon();
        x.sign(0, 1);
        x.keep(0);
        x.lots(20, 77);
        x.undo(3);
        x.on(0);
        for (int p = 0; p < 6; p++) {
            for (int what = 0; what < 6; what++) {
                x.person(p, what);
                x.mark(p, what);
                x.tells(p, what);
                x.order(p, what, 1);
                x.needs(p, what);
                x.part(p, what, 3);
            }
            x.reach(p);
            x.signs(p, 5 - p);
            x.odds(p, 5 - p, 4);
            x.rule(0, p);
            x.count(p);
            x.findings(p);
        }
        x.crew();
        x.crier();
        x.houses(0);
        x.broken(0);
        x.shouted(1);
        x.row(1, 1);
        x.calls(1);
        x.copy(0, 0, 1, 0, 1);
        x.mean(0);
        x.tear(1);
        x.digest();
    }
}
