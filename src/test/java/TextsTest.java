/** Promise 10: every short text of a few letters, its FAULT against the model's. */
public final class TextsTest {
    private static final String LETTERS = " pag012";
    private static final int LONGEST = 6;
    /** An object is promised for 512 calls, and a text takes some ten. */
    private static final int TEXTS_AN_OBJECT = 40;

    private TonguesDealt x;
    private Model model;
    private int left = 0;

    public static void main(String[] args) {
        TextsTest test = new TextsTest();
        test.all(new StringBuilder(), 5);
        test.all(new StringBuilder("pp"), 2 + LONGEST);
        Check.end("TextsTest");
    }

    private void all(StringBuilder text, int longest) {
        compare(text.toString());
        if (text.length() == longest) return;
        for (int i = 0; i < LETTERS.length(); i++) {
            text.append(LETTERS.charAt(i));
            all(text, longest);
            text.setLength(text.length() - 1);
        }
    }

    private void compare(String text) {
        if (left-- == 0) {
            x = new TonguesDealt();
            model = new Model();
            left = TEXTS_AN_OBJECT;
        }
        Check.write(x, 0, text);
        model.text(0, text.length());
        for (int i = 0; i < text.length(); i++) model.put(0, i, text.charAt(i));
        Check.due("fault of '" + text + "'", x.fault(0), model.fault(0));
    }
}
