/** Promises 5 and 6: login and context. */
public final class LoginTest {
    public static void main(String[] args) {
        Due due = new Due("LoginTest");
        logsInAndOut(due);
        refusesWrongUsersAndRoles(due);
        contextTellsReachableRoles(due);
        due.finish();
    }

    private static void logsInAndOut(Due due) {
        MethodWarden warden = new MethodWarden();
        due.yes("user 0 without roles", warden.login(0, 0));
        due.same("context", warden.context(), 0);
        due.yes("user 999 with all roles", warden.login(999, 65535));
        due.same("context", warden.context(), 999 * 65536 + 65535);
        due.yes("another one instead", warden.login(7, 5));
        due.same("context", warden.context(), 7 * 65536 + 5);
        due.yes("nobody, with roles that would be wrong", warden.login(-1, -5));
        due.same("context", warden.context(), -1);
        due.yes("nobody again", warden.login(-1, 65536));
        due.same("context", warden.context(), -1);
        due.yes("somebody again", warden.login(7, 0));
        due.same("the roles from before are gone", warden.context(), 7 * 65536);
    }

    private static void refusesWrongUsersAndRoles(Due due) {
        MethodWarden warden = new MethodWarden();
        warden.login(5, 6);
        int[] users = {-2, 1000, Integer.MIN_VALUE, Integer.MAX_VALUE};
        for (int user : users) {
            due.no("user " + user, warden.login(user, 0));
        }
        int[] roles = {-1, 65536, Integer.MIN_VALUE, Integer.MAX_VALUE};
        for (int set : roles) {
            due.no("roles " + set, warden.login(3, set));
        }
        due.same("what is refused changes nothing", warden.context(), 5 * 65536 + 6);
        warden.login(-1, 0);
        due.no("refused while nobody is logged in", warden.login(1000, 0));
        due.same("still nobody", warden.context(), -1);
    }

    private static void contextTellsReachableRoles(Due due) {
        MethodWarden warden = new MethodWarden();
        warden.senior(3, 5);
        warden.senior(5, 0);
        warden.login(2, 1 << 3);
        due.same("with all that is included", warden.context(), 2 * 65536 + (1 << 3 | 1 << 5 | 1));
        warden.target(0, 4, 900, 0);
        warden.target(1, 6, 0, 0);
        warden.target(2, 5, 0, 7);
        warden.target(3, 3, 1, 65535);
        for (int m = 0; m < 4; m++) {
            warden.call(m, 0, 0);
            due.same("after call " + m, warden.context(), 2 * 65536 + (1 << 3 | 1 << 5 | 1));
        }
        warden.login(-1, 0);
        warden.call(0, 0, 0);
        due.same("after a call by nobody", warden.context(), -1);
    }
}
