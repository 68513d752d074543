import java.util.ArrayList;
import java.util.List;

/**
 * "A call that is refused changes nothing." Two objects are made alike, one of them refuses a call, and then both
 * are asked for all that an object holds: not one answer may differ.
 */
public final class RefusedTest {
    private static final int ALL = 65535;
    private static final int LEAST = Integer.MIN_VALUE;
    private static final int MOST = Integer.MAX_VALUE;
    private static final int NO = 0;
    private static final String ROOMY_TEXT = "40 + ";
    private static final String FULL_TEXT = "40" + Write.repeated(" ", 45) + "+";

    private interface Call {
        long on(MethodWarden warden);
    }

    private final Due due = new Due("RefusedTest");

    public static void main(String[] args) {
        RefusedTest test = new RefusedTest();
        test.due.about("A call that is refused changes nothing.");
        test.theProbeTellsObjectsApart();
        test.type();
        test.define();
        test.senior();
        test.login();
        test.add();
        test.guard();
        test.rules();
        test.target();
        test.call();
        test.ask();
        test.whatOnlyAnswers();
        test.due.finish();
    }

    // ---- two objects alike

    /** Slots 0, 1, 2 and 5 have expressions; there are guards of all kinds; the list is full or has three items. */
    private static MethodWarden scene(boolean full) {
        MethodWarden warden = new MethodWarden();
        warden.senior(2, 9);
        warden.senior(9, 11);
        for (int k = 0; k < (full ? 5 : 3); k++) {
            warden.add(3 - 2 * k);
        }
        Write.define(warden, 0, "true");
        Write.define(warden, 1, "it > 0");
        Write.define(warden, 2, "role(9)");
        Write.define(warden, 5, "a + b");
        warden.guard(0, 4, 2);
        warden.guard(1, 3, 1 << 11);
        warden.guard(2, 2, 0);
        warden.guard(8, 1, 0);
        warden.guard(9, 3, 1 << 15 | 1 << 6);
        warden.rules(0, 1, 0, 1);
        warden.rules(5, -1, 2, -1);
        warden.rules(6, -1, 0, 1);
        warden.target(0, 2, 10, 0);
        warden.target(1, 1, 7, 0);
        warden.target(3, 5, 0, 1 << 9);
        warden.target(4, 3, 77, 0);
        warden.target(5, 5, 0, 1 << 6);
        warden.target(6, 4, 8, 0);
        warden.target(7, 6, 1, 0);
        warden.login(5, 1 << 2 | 1 << 6);
        warden.call(4, 1, 1);
        warden.call(0, 1, 1);
        warden.ask(5, 40, 2);
        if (full) {
            warden.login(-1, 0);
        }
        Write.type(warden, full ? FULL_TEXT : ROOMY_TEXT);
        return warden;
    }

    private static List<Long> probe(MethodWarden warden) {
        List<Long> answers = new ArrayList<>();
        probeAnswers(warden, answers);
        probeTextAndSlots(warden, answers);
        probeList(warden, answers);
        probeCalls(warden, answers);
        probeRoles(warden, answers);
        probeCalls(warden, answers);
        probePlaces(warden, answers);
        return answers;
    }

    private static void probeAnswers(MethodWarden warden, List<Long> answers) {
        answers.add((long) warden.context());
        answers.add(warden.asked());
        answers.add((long) warden.kind());
        answers.add((long) warden.number());
        for (int k = 0; k < 5; k++) {
            answers.add((long) warden.itemAt(k));
        }
        for (int m = 0; m <= 7; m++) {
            for (int end = 0; end <= 5; end++) {
                answers.add((long) warden.count(m, end));
            }
        }
    }

    private static void probeTextAndSlots(MethodWarden warden, List<Long> answers) {
        for (int slot = 0; slot <= 7; slot++) {
            answers.add((long) warden.ask(slot, 3, 4));
            answers.add(warden.asked());
        }
        answers.add(truth(warden.type('2')));
        answers.add((long) warden.define(7));
        answers.add((long) warden.ask(7, 3, 4));
        answers.add(warden.asked());
        answers.add((long) warden.define(7));
    }

    private static void probeList(MethodWarden warden, List<Long> answers) {
        Write.define(warden, 7, "list[a]");
        for (int k = 0; k < 5; k++) {
            answers.add((long) warden.ask(7, k, 0));
            answers.add(warden.asked());
        }
    }

    private static void probeCalls(MethodWarden warden, List<Long> answers) {
        for (int m = 0; m <= 7; m++) {
            answers.add((long) warden.call(m, 1, 2));
            answers.add((long) warden.kind());
            answers.add((long) warden.number());
            answers.add((long) warden.itemAt(0));
        }
    }

    private static void probeRoles(MethodWarden warden, List<Long> answers) {
        for (int role = 0; role <= 15; role++) {
            warden.login(role, 1 << role);
            answers.add((long) warden.context());
        }
        warden.login(3, ALL);
    }

    /** Takes the guards away and then the rules, and calls in between. */
    private static void probePlaces(MethodWarden warden, List<Long> answers) {
        for (int place = 0; place <= 9; place++) {
            answers.add(truth(warden.guard(place, 0, 0)));
        }
        probeRules(warden, answers);
        for (int m = 0; m <= 7; m++) {
            warden.rules(m, -1, -1, -1);
        }
        probeCalls(warden, answers);
        for (int k = 0; k < 3; k++) {
            answers.add(truth(warden.add(k)));
        }
    }

    /** An expression that is no TRUTH shows in the END of each call whose rules have its slot. */
    private static void probeRules(MethodWarden warden, List<Long> answers) {
        for (int slot = 0; slot <= 2; slot++) {
            Write.define(warden, slot, "null");
            probeEnds(warden, answers);
        }
        warden.login(-1, 0);
        probeEnds(warden, answers);
    }

    private static void probeEnds(MethodWarden warden, List<Long> answers) {
        for (int m = 0; m <= 7; m++) {
            answers.add((long) warden.call(m, 1, 2));
        }
    }

    private static boolean alike(List<Long> some, List<Long> others) {
        return some.equals(others);
    }

    private void refused(String what, long answer, Call call) {
        refusedIn(false, what, answer, call);
        refusedIn(true, what, answer, call);
    }

    private void refusedIn(boolean full, String what, long answer, Call call) {
        MethodWarden untouched = scene(full);
        MethodWarden warden = scene(full);
        String where = full ? " (nobody, a full text and list)" : " (somebody, room in text and list)";
        due.same(what + where, call.on(warden), answer);
        due.yes(what + where + " changes nothing", alike(probe(warden), probe(untouched)));
    }

    private static long truth(boolean answer) {
        return answer ? 1 : 0;
    }

    // ---- what the probe must see, or it would tell nothing

    private void changes(String what, Call call) {
        MethodWarden untouched = scene(false);
        MethodWarden warden = scene(false);
        call.on(warden);
        due.no(what + " is seen", alike(probe(warden), probe(untouched)));
    }

    private void theProbeTellsObjectsApart() {
        due.yes("the scene is always the same", alike(probe(scene(false)), probe(scene(false))));
        changes("type", w -> truth(w.type('1')));
        changes("define", w -> w.define(7));
        changes("define of a slot", w -> Write.define(w, 5, ""));
        changes("senior", w -> truth(w.senior(11, 0)));
        changes("login", w -> truth(w.login(5, 1 << 2)));
        changes("login of another", w -> truth(w.login(6, 1 << 2 | 1 << 6)));
        changes("add", w -> truth(w.add(0)));
        for (int place = 0; place <= 9; place++) {
            int where = place;
            changes("guard at " + place, w -> truth(w.guard(where, 0, 0) || w.guard(where, 2, 0)));
        }
        for (int m = 0; m <= 7; m++) {
            int which = m;
            changes("rules of " + m, w -> truth(w.rules(which, 0, -1, 0)));
            changes("target of " + m, w -> truth(w.target(which, 3, 5, 0)));
            changes("call of " + m, w -> w.call(which, 1, 1));
        }
        changes("ask", w -> w.ask(5, 40, 3));
    }

    // ---- the calls

    private void type() {
        for (int code : new int[] {0, 10, 31, 127, 128, 255, 256, 256 + '1', 65535}) {
            refused("type of code " + code, NO, w -> truth(w.type((char) code)));
        }
        for (char c : new char[] {' ', '1', 'a', '~'}) {
            refusedIn(true, "type of '" + c + "'", NO, w -> truth(w.type(c)));
        }
    }

    private void define() {
        for (int slot : new int[] {-1, 8, LEAST, MOST}) {
            refused("define(" + slot + ")", -2, w -> w.define(slot));
        }
    }

    private void senior() {
        int[][] pairs = {{-1, 0}, {16, 0}, {0, -1}, {0, 16}, {-1, -1}, {16, 16}, {LEAST, 1}, {1, MOST}, {2, 9}, {9, 11},
            {0, 0}, {15, 15}, {9, 2}, {11, 9}, {11, 2}};
        for (int[] pair : pairs) {
            refused("senior(" + pair[0] + ", " + pair[1] + ")", NO, w -> truth(w.senior(pair[0], pair[1])));
        }
    }

    private void login() {
        int[][] pairs = {{-2, 0}, {-2, ALL}, {1000, 0}, {1000, ALL}, {LEAST, 0}, {MOST, 0}, {0, -1}, {0, 65536}, {5, -1},
            {5, 65536}, {999, -1}, {999, 65536}, {1, LEAST}, {1, MOST}};
        for (int[] pair : pairs) {
            refused("login(" + pair[0] + ", " + pair[1] + ")", NO, w -> truth(w.login(pair[0], pair[1])));
        }
    }

    private void add() {
        for (int v : new int[] {LEAST, 0, 7, MOST}) {
            refusedIn(true, "add(" + v + ")", NO, w -> truth(w.add(v)));
        }
    }

    private void guard() {
        for (int place : new int[] {-1, 10, LEAST, MOST}) {
            for (int kind = 0; kind <= 4; kind++) {
                refusedGuard(place, kind, 0);
            }
        }
        for (int kind : new int[] {-1, 5, LEAST, MOST}) {
            for (int place = 0; place <= 9; place++) {
                refusedGuard(place, kind, 0);
            }
        }
        for (int x : new int[] {-1, 65536, LEAST, MOST}) {
            refusedGuard(1, 3, x);
            refusedGuard(3, 3, x);
            refusedGuard(9, 3, x);
        }
        for (int x : new int[] {-1, 3, 4, 6, 7, 8, LEAST, MOST}) {
            refusedGuard(0, 4, x);
            refusedGuard(3, 4, x);
        }
        int[] places = {0, 1, 2, 8, 9};
        int[] kinds = {4, 3, 2, 1, 3};
        for (int k = 0; k < places.length; k++) {
            for (int kind = 1; kind <= 4; kind++) {
                if (kind != kinds[k]) {
                    refusedGuard(places[k], kind, 0);
                }
            }
        }
        for (int place : new int[] {3, 4, 5, 6, 7}) {
            refusedGuard(place, 0, 0);
        }
    }

    private void refusedGuard(int place, int kind, int x) {
        refused("guard(" + place + ", " + kind + ", " + x + ")", NO, w -> truth(w.guard(place, kind, x)));
    }

    private void rules() {
        for (int m : new int[] {-1, 8, LEAST, MOST}) {
            refusedRules(m, -1, -1, -1);
            refusedRules(m, 0, 0, 0);
        }
        for (int slot : new int[] {-2, 3, 4, 6, 7, 8, LEAST, MOST}) {
            for (int m : new int[] {0, 3, 6}) {
                refusedRules(m, slot, -1, -1);
                refusedRules(m, -1, slot, -1);
                refusedRules(m, -1, -1, slot);
                refusedRules(m, slot, 0, 0);
                refusedRules(m, 0, slot, 0);
                refusedRules(m, 0, 0, slot);
                refusedRules(m, slot, slot, slot);
            }
        }
    }

    private void refusedRules(int m, int in, int check, int out) {
        refused("rules(" + m + ", " + in + ", " + check + ", " + out + ")", NO, w -> truth(w.rules(m, in, check, out)));
    }

    private void target() {
        for (int m : new int[] {-1, 8, LEAST, MOST}) {
            refusedTarget(m, 3, 5, 0);
        }
        for (int m : new int[] {0, 3, 7}) {
            for (int how : new int[] {-1, 7, LEAST, MOST}) {
                refusedTarget(m, how, 1, 0);
            }
            for (int how = 0; how <= 6; how++) {
                refusedTarget(m, how, 1, -1);
                refusedTarget(m, how, 1, 65536);
                refusedTarget(m, how, 1, LEAST);
            }
            for (int k : new int[] {-1, 1000, LEAST, MOST}) {
                refusedTarget(m, 4, k, 0);
            }
            for (int k : new int[] {-1, 8, LEAST, MOST}) {
                refusedTarget(m, 5, k, 0);
                refusedTarget(m, 6, k, 0);
            }
        }
    }

    private void refusedTarget(int m, int how, int k, int extra) {
        refused("target(" + m + ", " + how + ", " + k + ", " + extra + ")", NO, w -> truth(w.target(m, how, k, extra)));
    }

    private void call() {
        for (int m : new int[] {-1, 8, 9, LEAST, MOST}) {
            refused("call(" + m + ")", -1, w -> w.call(m, 9, 9));
        }
    }

    private void ask() {
        for (int slot : new int[] {-1, 3, 4, 6, 7, 8, LEAST, MOST}) {
            refused("ask(" + slot + ")", -2, w -> w.ask(slot, 9, 9));
        }
    }

    /** These change nothing either, whatever they are called with. */
    private void whatOnlyAnswers() {
        for (int k : new int[] {-1, 5, LEAST, MOST}) {
            refused("itemAt(" + k + ")", 0, w -> w.itemAt(k));
            refused("count(" + k + ", 9)", 0, w -> w.count(k, 9));
            refused("count(9, " + k + ")", 0, w -> w.count(9, k));
        }
        refused("kind()", 2, w -> w.kind());
        refused("asked()", 42, w -> w.asked());
        refusedIn(true, "context()", -1, w -> w.context());
        refusedIn(false, "context()", 5 * 65536 + (1 << 2 | 1 << 6 | 1 << 9 | 1 << 11), w -> w.context());
    }
}
