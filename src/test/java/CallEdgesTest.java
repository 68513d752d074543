/** "Terms", from WHO CALLS to the steps of a CALL: a test for each sentence that names an edge. */
public final class CallEdgesTest {
    private static final int ALL = 65535;
    private static final int[] INTS = {Integer.MIN_VALUE, Integer.MIN_VALUE + 1, -1, 0, 1, Integer.MAX_VALUE - 1,
        Integer.MAX_VALUE};
    /** Worked out these are not true, and but for the first of them no TRUTH. */
    private static final String[] NOT_TRUE = {"false", "null", "1", "1L", "list", "1/0", "1/0==1", "list[9]", "!1"};

    private final Due due = new Due("CallEdgesTest");

    public static void main(String[] args) {
        CallEdgesTest test = new CallEdgesTest();
        test.callers();
        test.guards();
        test.targets();
        test.waysIn();
        test.waysThrough();
        test.waysOut();
        test.due.finish();
    }

    private void callers() {
        usersAndRoles();
        reachableRoles();
    }

    private void guards() {
        placesOfTypes();
        alwaysAndNever();
        atLeastOneRole();
        whenTheExpressionIsTrue();
        whichGuardCounts();
        whatIsWatched();
    }

    private void targets() {
        nothing();
        sum();
        raisedList();
        throwing();
        otherUser();
        callingOn();
        callingAsNobody();
        extraRoles();
    }

    private void waysIn() {
        watchedAndNobody();
        filterInForEachItem();
        filterInNoTruth();
        filterInLeavesTheTrueOnes();
        guardDoesNotOpen();
        oneThingAfterTheOther();
    }

    private void waysThrough() {
        entered();
        targetThrows();
        endsOfTheCallWithin();
        withinEightOthers();
        contextComesBack();
    }

    private void waysOut() {
        checkIsNotTrue();
        checkWithEndNoughtAlone();
        filterOutOfNothing();
        filterOutOfAnInt();
        filterOutOfAList();
        filterOutNoTruth();
        retAndListAreKnown();
        listsOfFive();
    }

    // ---- how to make a scene

    /** User 1 without roles is logged in, and method 0 gives back the list. */
    private static MethodWarden with(int... items) {
        MethodWarden warden = new MethodWarden();
        warden.login(1, 0);
        warden.target(0, 2, 0, 0);
        for (int item : items) {
            warden.add(item);
        }
        return warden;
    }

    private void gaveList(String what, MethodWarden warden, int... items) {
        due.same(what + ": kind", warden.kind(), 2);
        due.same(what + ": number", warden.number(), items.length);
        for (int k = 0; k < 5; k++) {
            due.same(what + ": item " + k, warden.itemAt(k), k < items.length ? items[k] : 0);
        }
    }

    private void gaveNone(String what, MethodWarden warden, int number) {
        due.same(what + ": kind", warden.kind(), -1);
        due.same(what + ": number", warden.number(), number);
        due.same(what + ": itemAt(0)", warden.itemAt(0), 0);
    }

    // ---- who calls

    private void usersAndRoles() {
        due.about("At any time nobody or one USER (0 .. 999) is logged in, with a set of ROLES out of 0 .. 15, "
                + "given as a number with bit k for role k.");
        MethodWarden warden = new MethodWarden();
        due.same("nobody", warden.context(), -1);
        for (int user : new int[] {0, 1, 998, 999}) {
            warden.login(user, 0);
            due.same("user " + user, warden.context(), user * 65536);
        }
        for (int role = 0; role <= 15; role++) {
            warden.login(0, 1 << role);
            due.same("role " + role, warden.context(), 1 << role);
            Write.define(warden, 0, "role(a)");
            warden.ask(0, role, 0);
            due.same("role " + role + " is there", warden.asked(), 1);
            warden.ask(0, (role + 1) % 16, 0);
            due.same("the next one is not", warden.asked(), 0);
        }
    }

    private void reachableRoles() {
        due.about("REACHABLE are these roles and all that they include, directly or through others "
                + "(senior says what includes what).");
        MethodWarden warden = new MethodWarden();
        for (int role = 0; role < 15; role++) {
            warden.senior(role, role + 1);
        }
        for (int role = 0; role <= 15; role++) {
            warden.login(0, 1 << role);
            due.same("from role " + role + " down", warden.context(), ALL & -(1 << role));
        }
        warden.login(0, 0);
        due.same("from none", warden.context(), 0);
        warden.login(0, 1 << 15 | 1 << 13);
        due.same("from two", warden.context(), 1 << 13 | 1 << 14 | 1 << 15);
        MethodWarden upwards = new MethodWarden();
        for (int role = 15; role > 0; role--) {
            upwards.senior(role, role - 1);
        }
        for (int role = 0; role <= 15; role++) {
            upwards.login(0, 1 << role);
            due.same("from role " + role + " upwards", upwards.context(), (2 << role) - 1);
        }
    }

    // ---- guards

    private void placesOfTypes() {
        due.about("A PLACE for guards is a method 0 .. 7, or 8, the type of the methods 0 .. 3, or 9, "
                + "the type of the methods 4 .. 7.");
        for (int place = 0; place <= 9; place++) {
            MethodWarden warden = with();
            warden.guard(place, 2, 0);
            for (int m = 0; m <= 7; m++) {
                boolean shut = place == m || place == 8 && m <= 3 || place == 9 && m >= 4;
                due.same("guard at " + place + ", method " + m, warden.call(m, 0, 0), shut ? 2 : 0);
            }
        }
    }

    private void alwaysAndNever() {
        due.about("of kind 1 it always opens; of kind 2 never");
        for (int roles : new int[] {0, 1, ALL}) {
            MethodWarden warden = with();
            warden.login(999, roles);
            warden.guard(0, 1, 0);
            warden.guard(1, 2, ALL);
            due.same("kind 1", warden.call(0, 0, 0), 0);
            due.same("kind 2", warden.call(1, 0, 0), 2);
        }
        MethodWarden nobody = new MethodWarden();
        nobody.guard(0, 1, 0);
        due.same("kind 1 and nobody", nobody.call(0, 0, 0), 0);
    }

    private void atLeastOneRole() {
        due.about("of kind 3, with a set of roles, when at least one of them is reachable");
        MethodWarden warden = with();
        warden.guard(0, 3, 0);
        warden.guard(1, 3, ALL);
        warden.guard(2, 3, 1);
        warden.guard(3, 3, 1 << 15);
        warden.guard(4, 3, 1 | 1 << 15);
        int[] roles = {0, 1, 1 << 15, 1 | 1 << 15, ALL, ALL - 1, ALL >> 1, 1 << 7};
        int[][] ends = {{2, 2, 2, 2, 2}, {2, 0, 0, 2, 0}, {2, 0, 2, 0, 0}, {2, 0, 0, 0, 0}, {2, 0, 0, 0, 0},
            {2, 0, 2, 0, 0}, {2, 0, 0, 2, 0}, {2, 0, 2, 2, 2}};
        for (int k = 0; k < roles.length; k++) {
            warden.login(1, roles[k]);
            for (int m = 0; m <= 4; m++) {
                due.same("roles " + roles[k] + ", method " + m, warden.call(m, 0, 0), ends[k][m]);
            }
        }
        warden.senior(7, 15);
        warden.login(1, 1 << 7);
        due.same("reachable through another", warden.call(3, 0, 0), 0);
        due.same("the other is not asked for", warden.call(2, 0, 0), 2);
    }

    private void whenTheExpressionIsTrue() {
        due.about("of kind 4, with an expression, when that is true");
        MethodWarden warden = with(1);
        Write.define(warden, 0, "true");
        warden.guard(0, 4, 0);
        due.same("true", warden.call(0, 0, 0), 0);
        for (String text : NOT_TRUE) {
            Write.define(warden, 0, text);
            due.same(text, warden.call(0, 0, 0), 2);
        }
    }

    private void whichGuardCounts() {
        due.about("What counts for a method is its own guard, if it has one, else that of its type, if that has one; "
                + "else it is as with kind 1.");
        for (int m = 0; m <= 7; m++) {
            int type = m <= 3 ? 8 : 9;
            MethodWarden warden = with();
            due.same("neither", warden.call(m, 0, 0), 0);
            warden.guard(type, 2, 0);
            due.same("the type's", warden.call(m, 0, 0), 2);
            warden.guard(m, 1, 0);
            due.same("its own before the type's", warden.call(m, 0, 0), 0);
            warden.guard(type, 0, 0);
            due.same("its own alone", warden.call(m, 0, 0), 0);
            warden.guard(type, 1, 0);
            warden.guard(m, 0, 0);
            warden.guard(m, 2, 0);
            due.same("its own, shut, before the type's", warden.call(m, 0, 0), 2);
            warden.guard(m, 0, 0);
            due.same("the type's again", warden.call(m, 0, 0), 0);
            warden.guard(type, 0, 0);
            due.same("neither again", warden.call(m, 0, 0), 0);
        }
    }

    private void whatIsWatched() {
        due.about("A method is WATCHED when the guard that counts for it is of kind 2, 3 or 4 "
                + "or it has one of these three.");
        int[] xs = {0, 0, 0, ALL, 0};
        for (int own = 0; own <= 4; own++) {
            for (int type = 0; type <= 4; type++) {
                MethodWarden nobody = new MethodWarden();
                Write.define(nobody, 0, "true");
                nobody.guard(5, own, xs[own]);
                nobody.guard(9, type, xs[type]);
                int counts = own != 0 ? own : type;
                due.same("own " + own + ", type " + type, nobody.call(5, 0, 0), counts >= 2 ? 3 : 0);
            }
        }
        for (int three = 0; three < 8; three++) {
            MethodWarden nobody = new MethodWarden();
            Write.define(nobody, 0, "true");
            nobody.guard(0, 1, 0);
            nobody.rules(0, (three & 1) - 1, (three >> 1 & 1) - 1, (three >> 2 & 1) - 1);
            due.same("of the three " + three, nobody.call(0, 0, 0), three == 0 ? 0 : 3);
            nobody.rules(0, -1, -1, -1);
            due.same("none of the three any more", nobody.call(0, 0, 0), 0);
        }
    }

    // ---- targets

    private void nothing() {
        due.about("0 gives back NOTHING");
        for (int k : INTS) {
            MethodWarden warden = with(1);
            warden.target(0, 0, k, ALL);
            due.same("END", warden.call(0, 5, 5), 0);
            due.same("kind", warden.kind(), 0);
            due.same("number", warden.number(), 0);
        }
    }

    private void sum() {
        due.about("1 the INT a + k, wrapping");
        for (int k : INTS) {
            MethodWarden warden = with(1);
            warden.target(0, 1, k, 0);
            for (int a : INTS) {
                due.same("END", warden.call(0, a, 0), 0);
                due.same("kind", warden.kind(), 1);
                due.same(a + " + " + k, warden.number(), a + k);
                due.same("no item", warden.itemAt(0), 0);
            }
        }
    }

    private void raisedList() {
        due.about("2 the list it received with k added to each item, wrapping");
        for (int k : INTS) {
            MethodWarden empty = with();
            empty.target(0, 2, k, 0);
            due.same("END", empty.call(0, 0, 0), 0);
            gaveList("an empty list", empty);
            MethodWarden full = with(Integer.MIN_VALUE, -1, 0, 1, Integer.MAX_VALUE);
            full.target(0, 2, k, 0);
            due.same("END", full.call(0, 0, 0), 0);
            gaveList("a full list", full, Integer.MIN_VALUE + k, k - 1, k, k + 1, Integer.MAX_VALUE + k);
        }
    }

    private void throwing() {
        due.about("3 throws k");
        for (int k : INTS) {
            MethodWarden warden = with(1);
            warden.call(0, 0, 0);
            warden.target(0, 3, k, 0);
            due.same("END", warden.call(0, 0, 0), 1);
            gaveNone("thrown", warden, k);
        }
    }

    private void otherUser() {
        due.about("4 makes k the user, with all sixteen roles, and gives back the list it received as it is");
        for (int k : new int[] {0, 999}) {
            MethodWarden empty = with();
            empty.target(0, 4, k, 0);
            due.same("END", empty.call(0, 0, 0), 0);
            gaveList("an empty list", empty);
            MethodWarden full = with(Integer.MIN_VALUE, -1, 0, 1, Integer.MAX_VALUE);
            full.target(0, 4, k, ALL);
            due.same("END", full.call(0, 0, 0), 0);
            gaveList("a full list", full, Integer.MIN_VALUE, -1, 0, 1, Integer.MAX_VALUE);
            due.same("the caller afterwards", full.context(), 65536);
            full.login(-1, 0);
            due.same("END", full.call(0, 0, 0), 0);
            due.same("nobody afterwards", full.context(), -1);
        }
    }

    private void callingOn() {
        due.about("5 calls the method k with the same a and b and the list it received, "
                + "and gives back what that call gives back");
        for (int k : new int[] {1, 7}) {
            MethodWarden warden = with(4, 5, 6, 7, 8);
            warden.target(0, 5, k, 0);
            due.same("END", warden.call(0, 1, 2), 0);
            due.same("NOTHING", warden.kind(), 0);
            warden.target(k, 1, 10, 0);
            warden.call(0, Integer.MIN_VALUE, 0);
            due.same("an INT", warden.kind(), 1);
            due.same("of the same a", warden.number(), Integer.MIN_VALUE + 10);
            warden.target(k, 2, 1, 0);
            Write.define(warden, 0, "it > 5");
            warden.rules(0, 0, -1, -1);
            warden.call(0, 0, 0);
            gaveList("a LIST of what was left in", warden, 7, 8, 9);
            Write.define(warden, 0, "it > 99");
            warden.call(0, 0, 0);
            gaveList("a LIST of nothing left in", warden);
            Write.define(warden, 1, "a == 3 & b == -4");
            warden.guard(k, 4, 1);
            due.same("the same a and b", warden.call(0, 3, -4), 0);
            due.same("another a", warden.call(0, 4, -4), 2);
            due.same("another b", warden.call(0, 3, 4294967292L), 2);
        }
        MethodWarden least = with(9);
        least.target(7, 5, 0, 0);
        least.call(7, 0, 0);
        gaveList("method 0 by method 7", least, 9);
    }

    private void callingAsNobody() {
        due.about("6 makes nobody be logged in and then does as 5");
        for (int k : new int[] {1, 7}) {
            MethodWarden warden = with(4, 5);
            warden.login(999, ALL);
            warden.target(0, 6, k, ALL);
            warden.target(k, 2, 1, 0);
            due.same("not watched", warden.call(0, 0, 0), 0);
            gaveList("the list", warden, 5, 6);
            Write.define(warden, 0, "true");
            warden.guard(k, 4, 0);
            due.same("watched", warden.call(0, 0, 0), 3);
            due.same("the caller afterwards", warden.context(), 999 * 65536 + ALL);
            warden.guard(k, 0, 0);
            warden.rules(0, -1, 0, -1);
            due.same("the outer one was let in before", warden.call(0, 0, 0), 0);
        }
    }

    private void extraRoles() {
        due.about("while the target works, and if someone is logged in as it begins, they are added to the user's roles");
        MethodWarden warden = with();
        Write.define(warden, 0, "role(a)");
        Write.define(warden, 1, "!role(a)");
        warden.guard(7, 4, 0);
        for (int extra : new int[] {0, 1, 1 << 15, ALL}) {
            warden.target(0, 5, 7, extra);
            warden.rules(0, -1, 1, -1);
            for (int role = 0; role <= 15; role += 5) {
                boolean isThere = (extra >> role & 1) == 1;
                due.same("extra " + extra + ", role " + role, warden.call(0, role, 0), isThere ? 0 : 2);
                due.same("afterwards", warden.context(), 65536);
            }
        }
        warden.login(1, 1 << 3);
        warden.target(0, 5, 7, 1);
        warden.rules(0, -1, -1, -1);
        due.same("the user's own stay", warden.call(0, 3, 0), 0);
        due.same("the extra one is added", warden.call(0, 0, 0), 0);
        warden.target(1, 5, 0, 1 << 9);
        due.same("those of the call around stay", warden.call(1, 9, 0), 0);
        due.same("with those of the call within", warden.call(1, 0, 0), 0);
        due.same("without either", warden.call(7, 9, 0), 2);
        warden.senior(0, 12);
        due.same("what they include", warden.call(0, 12, 0), 0);
        warden.guard(0, 4, 0);
        due.same("before the target works", warden.call(0, 0, 0), 2);
        warden.guard(0, 0, 0);
        warden.login(-1, 0);
        due.same("nobody is logged in as it begins", warden.call(0, 0, 0), 3);
        due.same("nobody afterwards", warden.context(), -1);
    }

    // ---- the way in

    private void watchedAndNobody() {
        due.about("(1) The method is watched and nobody is logged in: END 3.");
        MethodWarden warden = with(1);
        Write.define(warden, 0, "1/0");
        warden.rules(0, 0, 0, 0);
        warden.guard(0, 2, 0);
        warden.login(-1, 0);
        due.same("nobody", warden.call(0, 0, 0), 3);
        gaveNone("nobody", warden, 0);
        due.same("not entered", warden.count(0, 5), 0);
        due.same("not watched", warden.call(1, 0, 0), 0);
        warden.login(0, 0);
        due.same("user 0 without roles is somebody", warden.call(0, 0, 0), 2);
    }

    private void filterInForEachItem() {
        due.about("(2) A FILTER IN is worked out for each item of the list as it (list being the whole list)");
        MethodWarden empty = with();
        Write.define(empty, 0, "1/0");
        empty.rules(0, 0, -1, -1);
        due.same("of an empty list for none", empty.call(0, 0, 0), 0);
        gaveList("an empty list", empty);
        MethodWarden full = with(1, 2, 3, 4, 5);
        Write.define(full, 0, "list.size == 5 & list[4] == 5 & it > 1");
        full.rules(0, 0, -1, -1);
        due.same("of a full list", full.call(0, 0, 0), 0);
        gaveList("the whole list for each", full, 2, 3, 4, 5);
        Write.define(full, 0, "list[0] < it & it < list[4]");
        full.call(0, 0, 0);
        gaveList("the whole list for each", full, 2, 3, 4);
        MethodWarden one = with(7);
        Write.define(one, 0, "it == 7 & list.size == 1");
        one.rules(0, 0, -1, -1);
        one.call(0, 0, 0);
        gaveList("of a list of one", one, 7);
    }

    private void filterInNoTruth() {
        due.about("when one is no TRUTH, END 2");
        for (int k = 1; k < NOT_TRUE.length; k++) {
            for (int place = 0; place < 5; place++) {
                MethodWarden warden = with(0, 1, 2, 3, 4);
                Write.define(warden, 0, "it == a ? " + NOT_TRUE[k] + " : true");
                warden.rules(0, 0, -1, -1);
                due.same(NOT_TRUE[k] + " at " + place, warden.call(0, place, 0), 2);
                gaveNone("END 2", warden, 0);
                due.same("not entered", warden.count(0, 5), 0);
                due.same("at none of them", warden.call(0, 5, 0), 0);
            }
        }
    }

    private void filterInLeavesTheTrueOnes() {
        due.about("the list becomes the items for which it is true");
        MethodWarden warden = with(5, 6, 7, 8, 9);
        Write.define(warden, 0, "it >= a & it <= b");
        warden.rules(0, 0, -1, -1);
        warden.call(0, 5, 9);
        gaveList("all", warden, 5, 6, 7, 8, 9);
        warden.call(0, 5, 5);
        gaveList("the first", warden, 5);
        warden.call(0, 9, 9);
        gaveList("the last", warden, 9);
        warden.call(0, 6, 8);
        gaveList("those between", warden, 6, 7, 8);
        warden.call(0, 9, 5);
        gaveList("none", warden);
        warden.call(0, 5, 9);
        gaveList("all again, for each call begins with the whole list", warden, 5, 6, 7, 8, 9);
        Write.define(warden, 1, "list.size == 3");
        warden.guard(0, 4, 1);
        due.same("the guard sees what is left", warden.call(0, 6, 8), 0);
        due.same("the guard sees what is left", warden.call(0, 5, 8), 2);
    }

    private void guardDoesNotOpen() {
        due.about("(3) The guard that counts does not open: END 2.");
        for (int kind = 2; kind <= 4; kind++) {
            for (int place = 0; place <= 8; place += 8) {
                MethodWarden warden = with(1);
                warden.call(0, 0, 0);
                Write.define(warden, 0, "false");
                warden.guard(place, kind, 0);
                due.same("kind " + kind + " at " + place, warden.call(0, 0, 0), 2);
                gaveNone("END 2", warden, 0);
                due.same("entered once before", warden.count(0, 5), 1);
            }
        }
    }

    private void oneThingAfterTheOther() {
        due.about("A CALL of a method goes so, one thing after the other; its END is 0 when it gives something back");
        MethodWarden warden = with(1);
        Write.define(warden, 0, "true");
        Write.define(warden, 1, "null");
        warden.rules(0, 1, 1, 1);
        warden.target(0, 3, 9, 0);
        warden.guard(0, 2, 0);
        warden.login(-1, 0);
        due.same("all of it wrong: nobody is first", warden.call(0, 0, 0), 3);
        warden.login(1, 0);
        due.same("then the filter in", warden.call(0, 0, 0), 2);
        warden.rules(0, 0, 1, 1);
        due.same("then the guard", warden.call(0, 0, 0), 2);
        due.same("not entered so far", warden.count(0, 5), 0);
        warden.guard(0, 0, 0);
        due.same("then the target", warden.call(0, 0, 0), 1);
        due.same("entered", warden.count(0, 5), 1);
        warden.target(0, 2, 0, 0);
        due.same("then the check", warden.call(0, 0, 0), 4);
        warden.rules(0, 0, 0, 1);
        due.same("then the filter out", warden.call(0, 0, 0), 4);
        warden.rules(0, 0, 0, 0);
        due.same("then it gives something back", warden.call(0, 0, 0), 0);
    }

    // ---- the way through

    private void entered() {
        due.about("(4) The target is ENTERED.");
        MethodWarden warden = with(1);
        Write.define(warden, 0, "false");
        due.same("not yet", warden.count(0, 5), 0);
        warden.call(0, 0, 0);
        due.same("with END 0", warden.count(0, 5), 1);
        warden.target(0, 3, 0, 0);
        warden.call(0, 0, 0);
        due.same("with END 1 of its own", warden.count(0, 5), 2);
        warden.target(0, 2, 0, 0);
        warden.rules(0, -1, 0, -1);
        warden.call(0, 0, 0);
        due.same("with END 4 of its own", warden.count(0, 5), 3);
        warden.guard(0, 2, 0);
        warden.call(0, 0, 0);
        due.same("not with END 2 of its own", warden.count(0, 5), 3);
        warden.login(-1, 0);
        warden.call(0, 0, 0);
        due.same("not with END 3 of its own", warden.count(0, 5), 3);
        warden.target(1, 5, 0, 0);
        warden.call(1, 0, 0);
        due.same("with END 3 of the call that it makes", warden.count(1, 5), 1);
    }

    private void targetThrows() {
        due.about("When it throws, END 1.");
        MethodWarden warden = with(1);
        Write.define(warden, 0, "true");
        warden.rules(0, 0, 0, 0);
        for (int k : INTS) {
            warden.target(0, 3, k, 0);
            due.same("throws " + k, warden.call(0, 0, 0), 1);
            gaveNone("throws " + k, warden, k);
        }
    }

    private void endsOfTheCallWithin() {
        due.about("When the call that it makes has an END other than 0, so has this one.");
        MethodWarden warden = with(1);
        Write.define(warden, 0, "false");
        Write.define(warden, 1, "true");
        warden.target(0, 5, 1, 0);
        warden.target(1, 5, 2, 0);
        warden.rules(0, 1, 1, -1);
        due.same("END 0", warden.call(0, 0, 0), 0);
        warden.target(2, 3, -8, 0);
        due.same("END 1", warden.call(0, 0, 0), 1);
        gaveNone("END 1", warden, -8);
        warden.guard(2, 2, 0);
        due.same("END 2", warden.call(0, 0, 0), 2);
        gaveNone("END 2", warden, 0);
        warden.target(1, 6, 2, 0);
        due.same("END 3", warden.call(0, 0, 0), 3);
        gaveNone("END 3", warden, 0);
        warden.target(1, 5, 2, 0);
        warden.guard(2, 0, 0);
        warden.target(2, 1, 7, 0);
        warden.rules(2, -1, 0, -1);
        due.same("END 4", warden.call(0, 0, 0), 4);
        gaveNone("END 4", warden, 0);
        for (int m = 0; m <= 2; m++) {
            for (int end = 0; end <= 4; end++) {
                due.same("count(" + m + ", " + end + ")", warden.count(m, end), 1);
            }
            due.same("count(" + m + ", 5)", warden.count(m, 5), m == 2 ? 3 : 5);
        }
    }

    private void withinEightOthers() {
        due.about("A call that would be within eight others is not made: the target throws -1 instead.");
        for (int how = 5; how <= 6; how++) {
            MethodWarden warden = new MethodWarden();
            for (int m = 0; m < 7; m++) {
                warden.target(m, how, m + 1, 0);
            }
            warden.target(7, 1, 1, 0);
            due.same("the eighth call is within seven others", warden.call(0, 4, 0), 0);
            due.same("what it gives back", warden.number(), 5);
            warden.target(7, 3, 6, 0);
            due.same("the eighth call throws", warden.call(0, 4, 0), 1);
            due.same("its own number", warden.number(), 6);
            warden.target(7, how, 7, 0);
            due.same("a ninth", warden.call(0, 4, 0), 1);
            gaveNone("a ninth", warden, -1);
            for (int m = 0; m <= 7; m++) {
                due.same("entered " + m, warden.count(m, 5), 3);
                due.same("END 1 of " + m, warden.count(m, 1), 2);
            }
        }
        MethodWarden one = new MethodWarden();
        one.target(3, 5, 3, 0);
        due.same("one that calls itself", one.call(3, 0, 0), 1);
        gaveNone("one that calls itself", one, -1);
        due.same("eight calls are made", one.count(3, 5), 8);
        due.same("each has END 1", one.count(3, 1), 8);
        due.same("from outside one begins anew", one.call(3, 0, 0), 1);
        due.same("eight more", one.count(3, 5), 16);
        theNinthIsNotEvenWatched();
    }

    /** The ninth call would be of method 0 once more, now by nobody or with a role that shuts it. */
    private void theNinthIsNotEvenWatched() {
        for (int how = 5; how <= 6; how++) {
            MethodWarden warden = with();
            for (int m = 0; m < 7; m++) {
                warden.target(m, 5, m + 1, 0);
            }
            warden.target(7, how, 0, 1);
            Write.define(warden, 0, "!role(0)");
            warden.guard(0, 4, 0);
            due.same("kind " + how, warden.call(0, 0, 0), 1);
            gaveNone("kind " + how, warden, -1);
            int[] counts = {0, 1, 0, 0, 0, 1};
            for (int end = 0; end <= 5; end++) {
                due.same("count(0, " + end + ")", warden.count(0, end), counts[end]);
            }
            due.same("as the eighth it is made", warden.call(1, 0, 0), how == 5 ? 2 : 3);
            due.same("and counted", warden.count(0, how == 5 ? 2 : 3), 1);
        }
    }

    private void contextComesBack() {
        due.about("(5) The context becomes what it was before the call, whatever the END.");
        MethodWarden warden = with(1);
        Write.define(warden, 0, "false");
        Write.define(warden, 1, "me == 5 & !role(1) & role(2)");
        warden.guard(4, 2, 0);
        warden.rules(5, -1, 0, -1);
        warden.target(6, 3, 1, 0);
        warden.target(3, 4, 999, ALL);
        for (int user = -1; user <= 5; user += 6) {
            warden.login(user, 1 << 2);
            int before = user == -1 ? -1 : 5 * 65536 + 4;
            int[] withinEnds = user == -1 ? new int[] {0, 3, 3, 1} : new int[] {0, 2, 4, 1};
            int[] asNobody = {0, 3, 3, 1};
            for (int k = 0; k < 4; k++) {
                warden.target(0, 5, 3 + k, ALL);
                due.same("of method " + (3 + k), warden.call(0, 0, 0), withinEnds[k]);
                due.same("with that END", warden.context(), before);
                warden.target(0, 6, 3 + k, ALL);
                due.same("of method " + (3 + k) + " by nobody", warden.call(0, 0, 0), asNobody[k]);
                due.same("with that END", warden.context(), before);
            }
        }
        warden.rules(0, -1, 1, -1);
        warden.target(0, 4, 999, ALL);
        due.same("before the check, from another user", warden.call(0, 0, 0), 0);
        warden.target(0, 5, 3, ALL);
        due.same("before the check, from extra roles", warden.call(0, 0, 0), 0);
        warden.target(0, 6, 3, ALL);
        due.same("before the check, from nobody", warden.call(0, 0, 0), 0);
        warden.rules(0, -1, -1, 1);
        due.same("before the filter out", warden.call(0, 0, 0), 0);
        gaveList("before the filter out", warden, 1);
    }

    // ---- the way out

    private void checkIsNotTrue() {
        due.about("(6) With END 0: the CHECK, if there is one, is not true: END 4.");
        for (int how = 0; how <= 2; how++) {
            for (String text : NOT_TRUE) {
                MethodWarden warden = with(1, 2);
                warden.target(0, how, 3, 0);
                Write.define(warden, 0, text);
                Write.define(warden, 1, "true");
                warden.rules(0, -1, 0, -1);
                due.same(text, warden.call(0, 0, 0), 4);
                gaveNone(text, warden, 0);
                warden.rules(0, -1, 1, -1);
                due.same("true", warden.call(0, 0, 0), 0);
                due.same("what came back is let out", warden.kind(), how);
                warden.rules(0, -1, -1, -1);
                due.same("none", warden.call(0, 0, 0), 0);
            }
        }
    }

    private void checkWithEndNoughtAlone() {
        due.about("(6) With END 0");
        MethodWarden warden = with(1);
        Write.define(warden, 0, "false");
        Write.define(warden, 1, "null");
        warden.rules(0, -1, 0, 0);
        warden.target(0, 3, 5, 0);
        due.same("END 1 stays", warden.call(0, 0, 0), 1);
        due.same("with its number", warden.number(), 5);
        warden.guard(0, 2, 0);
        due.same("END 2 stays", warden.call(0, 0, 0), 2);
        warden.login(-1, 0);
        due.same("END 3 stays", warden.call(0, 0, 0), 3);
    }

    private void filterOutOfNothing() {
        due.about("(7) A FILTER OUT, if there is one, leaves NOTHING as it is");
        for (String text : new String[] {"true", "false", "null", "1/0", "it > 0", "ret.size"}) {
            MethodWarden warden = with(1, 2);
            warden.target(0, 0, 0, 0);
            Write.define(warden, 0, text);
            warden.rules(0, -1, -1, 0);
            due.same(text, warden.call(0, 0, 0), 0);
            due.same(text + ": kind", warden.kind(), 0);
            due.same(text + ": number", warden.number(), 0);
        }
    }

    private void filterOutOfAnInt() {
        due.about("an INT makes END 4");
        for (String text : new String[] {"true", "false", "null", "it == 3"}) {
            MethodWarden warden = with(1, 2);
            warden.target(0, 1, 3, 0);
            Write.define(warden, 0, text);
            warden.rules(0, -1, -1, 0);
            due.same(text, warden.call(0, 0, 0), 4);
            gaveNone(text, warden, 0);
            due.same("even 0", warden.call(0, -3, 0), 4);
        }
    }

    private void filterOutOfAList() {
        due.about("of a LIST, it is worked out for each item as it (ret being the whole list)");
        MethodWarden empty = with();
        Write.define(empty, 0, "1/0");
        empty.rules(0, -1, -1, 0);
        due.same("of an empty LIST for none", empty.call(0, 0, 0), 0);
        gaveList("an empty LIST", empty);
        MethodWarden full = with(1, 2, 3, 4, 5);
        full.target(0, 2, 10, 0);
        Write.define(full, 0, "ret.size == 5 & ret[0] < it & it < ret[4]");
        full.rules(0, -1, -1, 0);
        due.same("of a full LIST", full.call(0, 0, 0), 0);
        gaveList("the whole LIST for each", full, 12, 13, 14);
        Write.define(full, 0, "it > a & it < b");
        full.call(0, 10, 16);
        gaveList("all", full, 11, 12, 13, 14, 15);
        full.call(0, 10, 12);
        gaveList("the first", full, 11);
        full.call(0, 14, 16);
        gaveList("the last", full, 15);
        full.call(0, 16, 10);
        gaveList("none", full);
    }

    private void filterOutNoTruth() {
        due.about("when one is no TRUTH, END 4; what comes back is the list of the items for which it is true");
        for (int k = 1; k < NOT_TRUE.length; k++) {
            for (int place = 0; place < 5; place++) {
                MethodWarden warden = with(0, 1, 2, 3, 4);
                Write.define(warden, 0, "it == a ? " + NOT_TRUE[k] + " : it > 2");
                warden.rules(0, -1, -1, 0);
                due.same(NOT_TRUE[k] + " at " + place, warden.call(0, place, 0), 4);
                gaveNone("END 4", warden, 0);
                due.same("at none of them", warden.call(0, 5, 0), 0);
                gaveList("at none of them", warden, 3, 4);
            }
        }
    }

    private void retAndListAreKnown() {
        due.about("In (6) and (7) ret is known, what came back, and list is the list that the target received.");
        MethodWarden warden = with(1, 2, 3);
        warden.target(0, 2, 10, 0);
        Write.define(warden, 0, "it > 1");
        Write.define(warden, 1, "ret.size == 2 & ret[0] == 12 & list[0] == 2");
        Write.define(warden, 2, "ret.size == 2 & list.size == 2 & it == 13");
        warden.rules(0, 0, 1, 2);
        due.same("END", warden.call(0, 0, 0), 0);
        gaveList("filtered in, raised, filtered out", warden, 13);
        warden.target(1, 5, 0, 0);
        Write.define(warden, 3, "ret.size == 1 & list.size == 3");
        warden.rules(1, -1, 3, 3);
        due.same("around that call, END", warden.call(1, 0, 0), 0);
        gaveList("around that call", warden, 13);
        Write.define(warden, 4, "ret == null");
        warden.rules(2, -1, 4, -1);
        due.same("NOTHING came back", warden.call(2, 0, 0), 0);
        warden.target(2, 1, 0, 0);
        due.same("not so any more", warden.call(2, 0, 0), 4);
        Write.define(warden, 4, "ret == a");
        due.same("an INT came back", warden.call(2, Integer.MIN_VALUE, 0), 0);
    }

    private void listsOfFive() {
        due.about("Lists have at most five items.");
        MethodWarden warden = with(1, 2, 3, 4, 5, 6);
        Write.define(warden, 0, "true");
        for (int m = 0; m < 7; m++) {
            warden.target(m, 5, m + 1, 0);
            warden.rules(m, 0, 0, 0);
        }
        warden.target(7, 2, 1, 0);
        due.same("through eight calls", warden.call(0, 0, 0), 0);
        gaveList("all five", warden, 2, 3, 4, 5, 6);
    }
}
