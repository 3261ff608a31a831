import java.util.ArrayList;
import java.util.List;
import java.util.Map;
import java.util.TreeMap;

/** Sentences of the document, word by word, each with calls that show whether it holds. */
final class Sentences {
    /** By promise (0: the terms) all that was said, in the document's order. */
    private static final Map<Integer, List<String>> SAID = new TreeMap<>();

    private final int promise;
    private Edge edge;

    Sentences(int promise) {
        this.promise = promise;
    }

    /** A sentence, and lines (as in Edge) one behind the other on one object. */
    Sentences says(String sentence, Edge.State state, String... lines) {
        SAID.computeIfAbsent(promise, p -> new ArrayList<>()).add(sentence);
        edge = new Edge(promise, sentence);
        return also(state, lines);
    }

    /** The sentence before, on another object. */
    Sentences also(Edge.State state, String... lines) {
        edge.goes(state, lines);
        return this;
    }

    /** Refusals, each on an object of its own, which must leave all as it was. */
    Sentences refuses(Edge.State state, String... lines) {
        edge.each(state, lines);
        return this;
    }

    static String said(int promise) {
        return String.join(" ", SAID.getOrDefault(promise, List.of()));
    }

    /** An object with nothing in it but a town. */
    static Edge.State town(String text) {
        return () -> Check.town(text);
    }

    /** A town on MORNING 1, ahead of NOON; the deal stands in ROW 5. */
    static Edge.State dealt(String text, int... tongues) {
        return () -> Check.dealt(text, tongues);
    }
}
