import java.io.IOException;
import java.nio.file.Files;
import java.nio.file.Path;
import java.util.regex.Matcher;
import java.util.regex.Pattern;

/**
 * The document a sentence at a time: each stands in a test word by word, with calls that show whether it
 * holds. With the document's path as an argument it is seen, too, whether the promises say just that.
 */
public final class SentencesTest {
    private static final int PROMISES = 41;

    public static void main(String[] args) throws IOException {
        SentencesOfTerms.run();
        SentencesOfRows.run();
        SentencesOfDeeds.run();
        SentencesOfMornings.run();
        for (int p = 0; p <= PROMISES; p++) {
            Check.holds("sentences of promise " + p, !Sentences.said(p).isEmpty());
        }
        if (args.length > 0) compare(Files.readString(Path.of(args[0])));
        Check.end("SentencesTest");
    }

    private static void compare(String document) {
        for (int p = 1; p <= PROMISES; p++) {
            Matcher m = Pattern.compile("## Promise " + p + ": [^\n]*\n\n`[^`]*`: ([^\n]*)\n").matcher(document);
            String text = m.find() ? m.group(1) : "";
            Check.holds("promise " + p + " says: " + text, text.equals(Sentences.said(p)));
        }
        String terms = document.substring(document.indexOf("## Terms"), document.indexOf("## Promise 1:"));
        for (String part : terms.split("\n|======== \\d |```text|```|## Terms|Ahead of .* the interface says: ")) {
            if (part.isBlank() || part.matches("---- \\d [a-z, ]+\\.")) continue;
            Check.holds("the terms say: " + part, Sentences.said(0).contains(part.strip()));
        }
    }
}
