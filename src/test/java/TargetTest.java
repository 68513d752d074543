/** Promise 11: target, and from the terms TARGET and EXTRA roles. */
public final class TargetTest {
    public static void main(String[] args) {
        Due due = new Due("TargetTest");
        refusesWrongArguments(due);
        givesBackAsSaid(due);
        raisesAFullList(due);
        callsOtherMethods(due);
        extraRolesAreThereWhileItWorks(due);
        makesAnotherUser(due);
        due.finish();
    }

    private static void refusesWrongArguments(Due due) {
        MethodWarden warden = new MethodWarden();
        due.no("method -1", warden.target(-1, 3, 0, 0));
        due.no("method 8", warden.target(8, 3, 0, 0));
        due.no("kind -1", warden.target(0, -1, 0, 0));
        due.no("kind 7", warden.target(0, 7, 0, 0));
        due.no("extra -1", warden.target(0, 3, 0, -1));
        due.no("extra 65536", warden.target(0, 3, 0, 65536));
        due.no("user -1", warden.target(0, 4, -1, 0));
        due.no("user 1000", warden.target(0, 4, 1000, 0));
        for (int how = 5; how <= 6; how++) {
            due.no("calls method -1", warden.target(0, how, -1, 0));
            due.no("calls method 8", warden.target(0, how, 8, 0));
            due.yes("calls method 7", warden.target(1, how, 7, 65535));
            due.yes("calls method 0", warden.target(1, how, 0, 0));
        }
        due.yes("user 0", warden.target(1, 4, 0, 0));
        due.yes("user 999", warden.target(1, 4, 999, 0));
        for (int how = 0; how <= 3; how++) {
            due.yes("any number", warden.target(1, how, Integer.MIN_VALUE, 0));
            due.yes("any number", warden.target(1, how, Integer.MAX_VALUE, 65535));
        }
        due.same("what is refused changes nothing", warden.call(0, 0, 0), 0);
        due.same("what is refused changes nothing", warden.kind(), 0);
    }

    private static void givesBackAsSaid(Due due) {
        MethodWarden warden = new MethodWarden();
        warden.add(1);
        warden.add(Integer.MAX_VALUE);
        warden.target(0, 0, 9, 0);
        warden.call(0, 5, 5);
        due.same("kind 0: NOTHING", warden.kind(), 0);
        warden.target(0, 1, 3, 0);
        warden.call(0, Integer.MAX_VALUE, 5);
        due.same("kind 1: an INT", warden.kind(), 1);
        due.same("a + k, wrapping", warden.number(), Integer.MIN_VALUE + 2);
        warden.target(0, 2, 2, 0);
        warden.call(0, 5, 5);
        due.same("kind 2: a LIST", warden.kind(), 2);
        due.same("k added", warden.itemAt(0), 3);
        due.same("k added, wrapping", warden.itemAt(1), Integer.MIN_VALUE + 1);
        warden.target(0, 3, -77, 0);
        due.same("kind 3: throws", warden.call(0, 5, 5), 1);
        due.same("the number thrown", warden.number(), -77);
        warden.target(0, 4, 12, 0);
        warden.call(0, 5, 5);
        due.same("kind 4: a LIST", warden.kind(), 2);
        due.same("as it is", warden.itemAt(0), 1);
        due.same("as it is", warden.itemAt(1), Integer.MAX_VALUE);
        due.same("as it is", warden.number(), 2);
    }

    private static void raisesAFullList(Due due) {
        MethodWarden warden = new MethodWarden();
        for (int k = 0; k < 5; k++) {
            warden.add(k);
        }
        warden.target(0, 2, -10, 0);
        warden.call(0, 0, 0);
        due.same("items", warden.number(), 5);
        for (int k = 0; k < 5; k++) {
            due.same("item " + k, warden.itemAt(k), k - 10);
        }
    }

    private static void callsOtherMethods(Due due) {
        MethodWarden warden = new MethodWarden();
        warden.login(1, 1);
        warden.add(5);
        warden.add(6);
        Write.define(warden, 0, "it > 5");
        Write.define(warden, 1, "a == 3 & b == 4 & list.size == 1");
        warden.rules(0, 0, -1, -1);
        warden.guard(1, 4, 1);
        warden.target(0, 5, 1, 0);
        warden.target(1, 2, 1, 0);
        due.same("the same a and b, the list it received", warden.call(0, 3, 4), 0);
        due.same("what that call gives back", warden.itemAt(0), 7);
        warden.target(0, 6, 1, 0);
        due.same("by nobody, and method 1 is watched", warden.call(0, 3, 4), 3);
        warden.guard(1, 0, 0);
        due.same("no longer watched", warden.call(0, 3, 4), 0);
        due.same("what that call gives back", warden.itemAt(0), 7);
        warden.target(1, 1, 10, 0);
        warden.call(0, 3, 4);
        due.same("an INT", warden.number(), 13);
        warden.target(1, 0, 10, 0);
        warden.call(0, 3, 4);
        due.same("NOTHING", warden.kind(), 0);
    }

    private static void extraRolesAreThereWhileItWorks(Due due) {
        MethodWarden warden = new MethodWarden();
        warden.senior(6, 8);
        warden.login(1, 1);
        Write.define(warden, 0, "role(8) & role(0)");
        Write.define(warden, 1, "!role(6)");
        warden.guard(1, 4, 0);
        warden.target(0, 5, 1, 1 << 6);
        due.same("added, with what they include", warden.call(0, 0, 0), 0);
        warden.guard(0, 4, 0);
        due.same("not yet at the guard", warden.call(0, 0, 0), 2);
        warden.guard(0, 0, 0);
        warden.rules(0, -1, 1, -1);
        due.same("no longer at the check", warden.call(0, 0, 0), 0);
        warden.rules(0, -1, -1, -1);
        warden.target(2, 5, 0, 0);
        warden.target(0, 0, 0, 1 << 6);
        due.same("only while it works", warden.call(2, 0, 0), 0);
        due.same("only while it works", warden.call(1, 0, 0), 2);
        warden.target(0, 5, 1, 1 << 6);
        warden.login(-1, 0);
        due.same("for nobody there are none", warden.call(0, 0, 0), 3);
        warden.login(1, 1);
        warden.target(0, 6, 1, 1 << 6);
        due.same("nobody is logged in when 1 is called", warden.call(0, 0, 0), 3);
        due.same("the context afterwards", warden.context(), 65537);
    }

    private static void makesAnotherUser(Due due) {
        MethodWarden warden = new MethodWarden();
        warden.login(1, 1);
        Write.define(warden, 0, "me == 1 & !role(1)");
        warden.rules(0, -1, 0, -1);
        warden.target(0, 4, 2, 0);
        due.same("the check sees the caller", warden.call(0, 0, 0), 0);
        due.same("context", warden.context(), 65537);
        warden.login(-1, 0);
        warden.rules(0, -1, -1, -1);
        due.same("called by nobody", warden.call(0, 0, 0), 0);
        due.same("still nobody", warden.context(), -1);
    }
}
