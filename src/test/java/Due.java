/** Counts the answers of one test that are not the ones that are due, and says them. */
final class Due {
    private final String test;
    private String sentence = "";
    private int sentences;
    private int lookedBefore;
    private int looked;
    private int wrong;

    Due(String test) {
        this.test = test;
    }

    /** The answers from here on belong to this sentence of the document. */
    void about(String words) {
        endSentence();
        sentence = words;
        sentences++;
        lookedBefore = looked;
    }

    private void endSentence() {
        if (sentences > 0 && looked == lookedBefore) {
            wrong++;
            System.out.println(test + ": no answer is looked at for \"" + sentence + "\"");
        }
    }

    void same(String what, long got, long want) {
        looked++;
        if (got != want) {
            wrong++;
            String of = sentence.isEmpty() ? "" : " (\"" + sentence + "\")";
            System.out.println(test + ": " + what + ": answered " + got + ", due is " + want + of);
        }
    }

    void yes(String what, boolean got) {
        same(what, got ? 1 : 0, 1);
    }

    void no(String what, boolean got) {
        same(what, got ? 1 : 0, 0);
    }

    boolean isSpoilt() {
        return wrong > 0;
    }

    void finish() {
        endSentence();
        String of = sentences == 0 ? "" : " of " + sentences + " sentences";
        System.out.println(test + ": " + looked + " answers" + of + ", " + wrong + " not as due");
        // A test that looks at nothing tells nothing.
        if (wrong > 0 || looked == 0) {
            System.exit(1);
        }
    }
}
