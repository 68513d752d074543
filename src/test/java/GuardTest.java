/** Promise 9: guard, and from the terms PLACE and GUARD. */
public final class GuardTest {
    public static void main(String[] args) {
        Due due = new Due("GuardTest");
        refusesWrongArguments(due);
        putsAndTakesAway(due);
        aGuardOfTheSameKindIsReplaced(due);
        ofWhatCounts(due);
        kindsOpenAsSaid(due);
        watchedMethodsWantACaller(due);
        due.finish();
    }

    private static MethodWarden withExpression() {
        MethodWarden warden = new MethodWarden();
        Write.define(warden, 3, "role(2)");
        warden.login(1, 0);
        return warden;
    }

    private static void refusesWrongArguments(Due due) {
        MethodWarden warden = withExpression();
        due.no("place -1", warden.guard(-1, 1, 0));
        due.no("place 10", warden.guard(10, 1, 0));
        due.no("place far away", warden.guard(Integer.MIN_VALUE, 1, 0));
        due.no("kind -1", warden.guard(0, -1, 0));
        due.no("kind 5", warden.guard(0, 5, 0));
        due.no("roles -1", warden.guard(0, 3, -1));
        due.no("roles 65536", warden.guard(0, 3, 65536));
        due.no("slot -1", warden.guard(0, 4, -1));
        due.no("slot 8", warden.guard(0, 4, 8));
        due.no("a slot without an expression", warden.guard(0, 4, 2));
        due.no("no guard to take away", warden.guard(0, 0, 0));
        due.same("none of these put a guard", warden.call(0, 0, 0), 0);
        due.yes("kinds 1 and 2 don't look at x", warden.guard(0, 1, -1));
        due.yes("kinds 1 and 2 don't look at x", warden.guard(1, 2, 65536));
        due.yes("no more does kind 0", warden.guard(1, 0, -1));
    }

    private static void putsAndTakesAway(Due due) {
        MethodWarden warden = withExpression();
        int[] xs = {0, 0, 0, 0, 3};
        for (int place = 0; place < 10; place++) {
            for (int kind = 1; kind <= 4; kind++) {
                due.no("none there yet", warden.guard(place, 0, 0));
                due.yes("put", warden.guard(place, kind, xs[kind]));
                for (int other = 1; other <= 4; other++) {
                    boolean answer = warden.guard(place, other, xs[other]);
                    due.same("kind " + other + " upon " + kind, answer ? 1 : 0, other == kind ? 1 : 0);
                }
                due.yes("taken away", warden.guard(place, 0, 0));
            }
        }
    }

    private static void aGuardOfTheSameKindIsReplaced(Due due) {
        MethodWarden warden = withExpression();
        Write.define(warden, 4, "true");
        warden.guard(0, 3, 1);
        due.same("without the role", warden.call(0, 0, 0), 2);
        warden.login(1, 2);
        due.no("a wrong set changes nothing", warden.guard(0, 3, 65536));
        due.no("another kind changes nothing", warden.guard(0, 1, 0));
        due.same("without the role", warden.call(0, 0, 0), 2);
        due.yes("another set", warden.guard(0, 3, 3));
        due.same("with one of the roles", warden.call(0, 0, 0), 0);
        warden.guard(1, 4, 3);
        due.same("without role 2", warden.call(1, 0, 0), 2);
        due.yes("another expression", warden.guard(1, 4, 4));
        due.same("true", warden.call(1, 0, 0), 0);
    }

    private static void ofWhatCounts(Due due) {
        MethodWarden warden = withExpression();
        warden.guard(8, 2, 0);
        for (int m = 0; m < 8; m++) {
            due.same("type 8 has " + m, warden.call(m, 0, 0), m < 4 ? 2 : 0);
        }
        warden.guard(8, 0, 0);
        warden.guard(9, 2, 0);
        for (int m = 0; m < 8; m++) {
            due.same("type 9 has " + m, warden.call(m, 0, 0), m < 4 ? 0 : 2);
        }
        warden.guard(5, 1, 0);
        due.same("its own one opens", warden.call(5, 0, 0), 0);
        warden.guard(5, 0, 0);
        due.same("that of the type counts again", warden.call(5, 0, 0), 2);
        warden.guard(8, 1, 0);
        warden.guard(2, 2, 0);
        due.same("its own one is shut", warden.call(2, 0, 0), 2);
        due.same("its neighbour has that of the type", warden.call(3, 0, 0), 0);
    }

    private static void kindsOpenAsSaid(Due due) {
        MethodWarden warden = withExpression();
        warden.senior(7, 2);
        warden.guard(0, 1, 0);
        warden.guard(1, 2, 0);
        warden.guard(2, 3, 1 << 2 | 1 << 4);
        warden.guard(3, 4, 3);
        warden.guard(4, 3, 0);
        int[] roles = {0, 1 << 2, 1 << 4, 1 << 7, 65535 & ~(1 << 2 | 1 << 4 | 1 << 7), 65535};
        int[][] ends = {{0, 2, 2, 2, 2}, {0, 2, 0, 0, 2}, {0, 2, 0, 2, 2}, {0, 2, 0, 0, 2}, {0, 2, 2, 2, 2}, {0, 2, 0, 0, 2}};
        for (int k = 0; k < roles.length; k++) {
            warden.login(1, roles[k]);
            for (int m = 0; m < 5; m++) {
                due.same("roles " + roles[k] + " at method " + m, warden.call(m, 0, 0), ends[k][m]);
            }
        }
        String[] notTrue = {"false", "null", "1", "1L", "list", "it", "ret", "1 / 0 == 1", "me"};
        for (String text : notTrue) {
            Write.define(warden, 3, text);
            due.same("guard " + text, warden.call(3, 0, 0), 2);
        }
    }

    private static void watchedMethodsWantACaller(Due due) {
        MethodWarden warden = withExpression();
        Write.define(warden, 0, "true");
        warden.login(-1, 0);
        int[] xs = {0, 0, 0, 65535, 0};
        for (int kind = 1; kind <= 4; kind++) {
            warden.guard(0, kind, xs[kind]);
            warden.guard(9, kind, xs[kind]);
            due.same("own guard of kind " + kind, warden.call(0, 0, 0), kind == 1 ? 0 : 3);
            due.same("type's guard of kind " + kind, warden.call(4, 0, 0), kind == 1 ? 0 : 3);
            warden.guard(4, 1, 0);
            due.same("own guard of kind 1 before it", warden.call(4, 0, 0), 0);
            warden.guard(0, 0, 0);
            warden.guard(4, 0, 0);
            warden.guard(9, 0, 0);
        }
        due.same("no guard any more", warden.call(0, 0, 0), 0);
    }
}
