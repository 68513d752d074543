/** Promise 4: senior. */
public final class SeniorTest {
    public static void main(String[] args) {
        Due due = new Due("SeniorTest");
        refusesWrongRoles(due);
        refusesWhatIsThereAndWhatWouldGoRound(due);
        takesWhatIsThereThroughOthers(due);
        reachesThroughOthersWhateverTheOrder(due);
        changesTheCallerWhoIsLoggedIn(due);
        aLongChain(due);
        due.finish();
    }

    private static void refusesWrongRoles(Due due) {
        MethodWarden warden = new MethodWarden();
        int[] wrong = {-1, 16, 32, Integer.MIN_VALUE, Integer.MAX_VALUE};
        for (int role : wrong) {
            due.no("senior(" + role + ", 1)", warden.senior(role, 1));
            due.no("senior(1, " + role + ")", warden.senior(1, role));
        }
        for (int role = 0; role < 16; role++) {
            due.no("a role with itself", warden.senior(role, role));
        }
        warden.login(0, 65535);
        due.same("all roles", warden.context(), 65535);
        warden.login(0, 2);
        due.same("nothing was included", warden.context(), 2);
    }

    private static void refusesWhatIsThereAndWhatWouldGoRound(Due due) {
        MethodWarden warden = new MethodWarden();
        due.yes("1 includes 2", warden.senior(1, 2));
        due.no("directly already", warden.senior(1, 2));
        due.no("2 is included by 1", warden.senior(2, 1));
        due.yes("2 includes 3", warden.senior(2, 3));
        due.yes("3 includes 4", warden.senior(3, 4));
        due.no("4 is included by 1 through others", warden.senior(4, 1));
        due.no("4 is included by 2 through others", warden.senior(4, 2));
        due.yes("5 includes 1", warden.senior(5, 1));
        due.no("4 is included by 5 through others", warden.senior(4, 5));
        warden.login(0, 1 << 4);
        due.same("what was refused includes nothing", warden.context(), 1 << 4);
    }

    private static void takesWhatIsThereThroughOthers(Due due) {
        MethodWarden warden = new MethodWarden();
        warden.senior(1, 2);
        warden.senior(2, 3);
        due.yes("1 includes 3 through 2, not directly", warden.senior(1, 3));
        due.no("now directly", warden.senior(1, 3));
        due.yes("two may include the same", warden.senior(0, 3));
        due.no("an earlier one is still direct", warden.senior(1, 2));
    }

    private static void reachesThroughOthersWhateverTheOrder(Due due) {
        MethodWarden warden = new MethodWarden();
        // The lower ones first, then the upper ones, then the one between them.
        warden.senior(3, 4);
        warden.senior(1, 2);
        warden.senior(2, 3);
        warden.senior(2, 9);
        warden.login(0, 1 << 1);
        due.same("from 1", warden.context(), 1 << 1 | 1 << 2 | 1 << 3 | 1 << 4 | 1 << 9);
        warden.login(0, 1 << 2);
        due.same("from 2", warden.context(), 1 << 2 | 1 << 3 | 1 << 4 | 1 << 9);
        warden.login(0, 1 << 4 | 1 << 15);
        due.same("from 4 and 15", warden.context(), 1 << 4 | 1 << 15);
    }

    private static void changesTheCallerWhoIsLoggedIn(Due due) {
        MethodWarden warden = new MethodWarden();
        warden.login(3, 1);
        warden.senior(0, 15);
        due.same("from now on", warden.context(), 3 * 65536 + 1 + (1 << 15));
    }

    private static void aLongChain(Due due) {
        MethodWarden warden = new MethodWarden();
        for (int role = 14; role >= 0; role--) {
            due.yes("chain", warden.senior(role, role + 1));
        }
        warden.login(0, 1);
        due.same("the whole chain", warden.context(), 65535);
        due.no("round", warden.senior(15, 0));
        warden.login(0, 1 << 15);
        due.same("its end", warden.context(), 1 << 15);
    }
}
