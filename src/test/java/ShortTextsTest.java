/**
 * Promises 3, 17 and 18 for every text of at most four of the tokens below, with and without spaces
 * between them: its FAULT or what it is worth, compared with the plain model.
 */
public final class ShortTextsTest {
    private static final int MOST_TOKENS = 4;
    /** All words and signs; numbers, and what is WRONG, by some of each sort. */
    private static final String[] TOKENS = {"1", "2L", "true", "false", "null", "me", "a", "b", "it", "ret", "list",
        "role", "size", "(", ")", "[", "]", ":", "?", "|", "&", "<", ">", "+", "-", "*", "/", "%", "!", ".", "==", "!=",
        "<=", ">=", "?:", "?.", ".?[", ".^[", ".$[", "=", "x", "2147483648"};

    private final Due due = new Due("ShortTextsTest");

    public static void main(String[] args) {
        ShortTextsTest test = new ShortTextsTest();
        test.goOn("", "", 1);
        test.due.finish();
    }

    private void goOn(String spaced, String close, int tokens) {
        for (String token : TOKENS) {
            String text = spaced + token;
            int fault = looksAt(text + " ");
            looksAt(close + token);
            // Behind a token at fault the fault stays the same, whatever follows.
            boolean canGoOn = fault == -1 || fault == text.length() + 1;
            if (canGoOn && tokens < MOST_TOKENS) {
                goOn(text + " ", close + token, tokens + 1);
            }
        }
    }

    private int looksAt(String text) {
        MethodWarden warden = new MethodWarden();
        PlainModel model = new PlainModel();
        for (int k = 0; k < text.length(); k++) {
            warden.type(text.charAt(k));
            model.type(text.charAt(k));
        }
        int fault = warden.define(0);
        due.same("the fault of '" + text + "'", fault, model.define(0));
        if (fault == -1) {
            warden.login(1, 2);
            model.login(1, 2);
            asks(text, warden, model);
            for (int item = 5; item >= 1; item -= 2) {
                warden.add(item);
                model.add(item);
            }
            asks(text, warden, model);
        }
        return fault;
    }

    private void asks(String text, MethodWarden warden, PlainModel model) {
        due.same("the sort of '" + text + "'", warden.ask(0, 1, 7L), model.ask(0, 1, 7L));
        due.same("the worth of '" + text + "'", warden.asked(), model.asked());
    }
}
