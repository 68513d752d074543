/** Types texts, for tests. */
final class Write {
    /** What ask answers, by name. */
    static final int ERROR = -1;
    static final int NOTHING = 0;
    static final int TRUTH = 1;
    static final int INT = 2;
    static final int LONG = 3;
    static final int LIST = 4;

    private static final int SCRATCH_SLOT = 7;

    private Write() {
    }

    static void type(MethodWarden warden, String text) {
        for (int k = 0; k < text.length(); k++) {
            warden.type(text.charAt(k));
        }
    }

    static int define(MethodWarden warden, int slot, String text) {
        type(warden, text);
        return warden.define(slot);
    }

    /** The FAULT of the text on an object of its own, or -1. */
    static int fault(String text) {
        return define(new MethodWarden(), 0, text);
    }

    /** Defines the text in the last slot and asks it; -99 when it has a FAULT. */
    static long answer(MethodWarden warden, String text) {
        return answer(warden, text, 0, 0);
    }

    static long answer(MethodWarden warden, String text, int a, long b) {
        return sort(warden, text, a, b) == -99 ? -99 : warden.asked();
    }

    static int sort(MethodWarden warden, String text, int a, long b) {
        return define(warden, SCRATCH_SLOT, text) == -1 ? warden.ask(SCRATCH_SLOT, a, b) : -99;
    }

    static String repeated(String piece, int times) {
        StringBuilder text = new StringBuilder();
        for (int k = 0; k < times; k++) {
            text.append(piece);
        }
        return text.toString();
    }
}
