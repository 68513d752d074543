/** Counts the answers of one test that are not the ones that are due, and says them. */
final class Due {
    private final String test;
    private int looked;
    private int wrong;

    Due(String test) {
        this.test = test;
    }

    void same(String what, long got, long want) {
        looked++;
        if (got != want) {
            wrong++;
            System.out.println(test + ": " + what + ": answered " + got + ", due is " + want);
        }
    }

    void yes(String what, boolean got) {
        same(what, got ? 1 : 0, 1);
    }

    void no(String what, boolean got) {
        same(what, got ? 1 : 0, 0);
    }

    boolean isSpoilt() {
        return wrong > 0;
    }

    void finish() {
        System.out.println(test + ": " + looked + " answers, " + wrong + " not as due");
        // A test that looks at nothing tells nothing.
        if (wrong > 0 || looked == 0) {
            System.exit(1);
        }
    }
}
