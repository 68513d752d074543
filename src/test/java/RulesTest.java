/** Promise 10: rules. */
public final class RulesTest {
    public static void main(String[] args) {
        Due due = new Due("RulesTest");
        refusesWrongArguments(due);
        replacesAllThree(due);
        eachMakesTheMethodWatched(due);
        methodsHaveTheirOwn(due);
        due.finish();
    }

    private static void refusesWrongArguments(Due due) {
        MethodWarden warden = new MethodWarden();
        Write.define(warden, 0, "false");
        int[] wrong = {-2, 1, 7, 8, Integer.MIN_VALUE, Integer.MAX_VALUE};
        for (int slot : wrong) {
            due.no("filter in " + slot, warden.rules(0, slot, -1, -1));
            due.no("check " + slot, warden.rules(0, 0, slot, 0));
            due.no("filter out " + slot, warden.rules(0, -1, 0, slot));
        }
        due.no("method -1", warden.rules(-1, -1, -1, -1));
        due.no("method 8", warden.rules(8, -1, -1, -1));
        due.same("what is refused changes nothing", warden.call(0, 0, 0), 0);
    }

    private static void replacesAllThree(Due due) {
        MethodWarden warden = new MethodWarden();
        warden.login(1, 0);
        warden.add(1);
        warden.target(0, 2, 0, 0);
        Write.define(warden, 0, "false");
        Write.define(warden, 1, "null");
        due.yes("all three", warden.rules(0, 1, 1, 1));
        due.same("the filter in is no TRUTH", warden.call(0, 0, 0), 2);
        due.no("refused", warden.rules(0, -1, -1, 5));
        due.same("so they stay", warden.call(0, 0, 0), 2);
        due.yes("a check alone", warden.rules(0, -1, 0, -1));
        due.same("the check is false", warden.call(0, 0, 0), 4);
        due.yes("a filter out alone", warden.rules(0, -1, -1, 0));
        due.same("it lets nothing out", warden.call(0, 0, 0), 0);
        due.same("it lets nothing out", warden.number(), 0);
        due.yes("none", warden.rules(0, -1, -1, -1));
        warden.call(0, 0, 0);
        due.same("all comes out", warden.number(), 1);
    }

    private static void eachMakesTheMethodWatched(Due due) {
        MethodWarden warden = new MethodWarden();
        Write.define(warden, 0, "true");
        warden.rules(0, 0, -1, -1);
        warden.rules(1, -1, 0, -1);
        warden.rules(2, -1, -1, 0);
        warden.guard(8, 1, 0);
        for (int m = 0; m < 4; m++) {
            due.same("nobody calls " + m, warden.call(m, 0, 0), m < 3 ? 3 : 0);
        }
        warden.login(0, 0);
        for (int m = 0; m < 4; m++) {
            due.same("somebody calls " + m, warden.call(m, 0, 0), 0);
        }
        warden.login(-1, 0);
        warden.rules(0, -1, -1, -1);
        due.same("no longer watched", warden.call(0, 0, 0), 0);
    }

    private static void methodsHaveTheirOwn(Due due) {
        MethodWarden warden = new MethodWarden();
        warden.login(1, 0);
        Write.define(warden, 0, "false");
        warden.rules(7, -1, 0, -1);
        for (int m = 0; m < 8; m++) {
            due.same("call of " + m, warden.call(m, 0, 0), m == 7 ? 4 : 0);
        }
    }
}
