/** Promise 1: what a new object is like. */
public final class NewObjectTest {
    public static void main(String[] args) {
        Due due = new Due("NewObjectTest");
        MethodWarden fresh = new MethodWarden();
        due.same("nobody is logged in", fresh.context(), -1);
        due.same("there was no call: kind", fresh.kind(), -1);
        due.same("there was no call: number", fresh.number(), 0);
        due.same("there was no call: itemAt", fresh.itemAt(0), 0);
        due.same("there was no ask", fresh.asked(), 0);
        due.same("the text is empty", fresh.define(0), 0);
        for (int slot = 0; slot < 8; slot++) {
            due.same("no expression in slot " + slot, fresh.ask(slot, 0, 0), -2);
        }
        for (int place = 0; place < 10; place++) {
            due.no("no guard at " + place, fresh.guard(place, 0, 0));
        }
        for (int m = 0; m < 8; m++) {
            for (int end = 0; end < 6; end++) {
                due.same("count(" + m + ", " + end + ")", fresh.count(m, end), 0);
            }
        }
        noRoleIncludesAnother(due);
        callsGiveNothing(due);
        theListIsEmpty(due);
        objectsShareNothing(due);
        due.finish();
    }

    private static void noRoleIncludesAnother(Due due) {
        MethodWarden fresh = new MethodWarden();
        for (int role = 0; role < 16; role++) {
            fresh.login(0, 1 << role);
            due.same("role " + role + " alone", fresh.context(), 1 << role);
        }
    }

    private static void callsGiveNothing(Due due) {
        MethodWarden fresh = new MethodWarden();
        for (int m = 0; m < 8; m++) {
            due.same("nobody may call " + m + ", which is not watched", fresh.call(m, 1, 1), 0);
            due.same("method " + m + " gives back NOTHING", fresh.kind(), 0);
        }
    }

    private static void theListIsEmpty(Due due) {
        MethodWarden fresh = new MethodWarden();
        due.same("list.size", Write.answer(fresh, "list.size"), 0);
        fresh.target(0, 2, 0, 0);
        fresh.call(0, 0, 0);
        due.same("items that come back", fresh.number(), 0);
    }

    private static void objectsShareNothing(Due due) {
        MethodWarden used = new MethodWarden();
        Write.define(used, 0, "1");
        used.login(1, 1);
        used.senior(0, 1);
        used.add(1);
        used.guard(0, 2, 0);
        used.target(1, 3, 7, 0);
        used.type('a');
        MethodWarden fresh = new MethodWarden();
        due.same("another object's expression", fresh.ask(0, 0, 0), -2);
        due.same("another object's caller", fresh.context(), -1);
        due.same("another object's guard", fresh.call(0, 0, 0), 0);
        due.same("another object's target", fresh.call(1, 0, 0), 0);
        due.same("another object's list", Write.answer(fresh, "list.size"), 0);
        fresh.login(0, 1);
        due.same("another object's roles", fresh.context(), 1);
    }
}
