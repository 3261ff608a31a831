/** Boundary cases of promises 1 to 41, each sentence of the document that names one. */
public final class EdgesTest {
    private static final int PROMISES = 41;

    public static void main(String[] args) {
        EdgesOfRows.run();
        EdgesOfTowns.run();
        EdgesOfDeeds.run();
        EdgesOfOrders.run();
        EdgesOfChances.run();
        EdgesOfMornings.run();
        EdgesOfShouts.run();
        EdgesOfTold.run();
        for (int p = 1; p <= PROMISES; p++) {
            Check.holds("promise " + p + " has its boundary cases", Edge.promises().contains(p));
        }
        Check.end("EdgesTest");
    }
}
