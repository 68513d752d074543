/** Promises 17 and 18: ask and asked. */
public final class AskTest {
    public static void main(String[] args) {
        Due due = new Due("AskTest");
        refusesOtherSlots(due);
        answersTheSortAndTheValue(due);
        seesTheContextTheArgumentsAndTheList(due);
        neitherItNorRetIsKnown(due);
        aRefusedAskChangesNothing(due);
        due.finish();
    }

    private static void refusesOtherSlots(Due due) {
        MethodWarden warden = new MethodWarden();
        Write.define(warden, 0, "1");
        Write.define(warden, 7, "2");
        due.same("slot 0", warden.ask(0, 0, 0), Write.INT);
        due.same("slot 7", warden.ask(7, 0, 0), Write.INT);
        int[] wrong = {-1, 1, 6, 8, Integer.MIN_VALUE, Integer.MAX_VALUE};
        for (int slot : wrong) {
            due.same("slot " + slot, warden.ask(slot, 0, 0), -2);
        }
    }

    private static void is(Due due, MethodWarden warden, String text, int sort, long value) {
        due.same("sort of " + text, Write.sort(warden, text, 3, 4), sort);
        due.same("value of " + text, warden.asked(), value);
    }

    private static void answersTheSortAndTheValue(Due due) {
        MethodWarden warden = new MethodWarden();
        warden.add(9);
        warden.add(9);
        is(due, warden, "5", Write.INT, 5);
        is(due, warden, "1 / 0", Write.ERROR, 0);
        is(due, warden, "-5", Write.INT, -5);
        is(due, warden, "null", Write.NOTHING, 0);
        is(due, warden, "true", Write.TRUTH, 1);
        is(due, warden, "false", Write.TRUTH, 0);
        is(due, warden, "-6L", Write.LONG, -6);
        is(due, warden, "list", Write.LIST, 2);
        is(due, warden, "list.?[false]", Write.LIST, 0);
    }

    private static void seesTheContextTheArgumentsAndTheList(Due due) {
        MethodWarden warden = new MethodWarden();
        is(due, warden, "me", Write.NOTHING, 0);
        is(due, warden, "role(0)", Write.TRUTH, 0);
        is(due, warden, "a", Write.INT, 3);
        is(due, warden, "b", Write.LONG, 4);
        is(due, warden, "list.size", Write.INT, 0);
        warden.login(12, 1);
        warden.senior(0, 5);
        warden.add(8);
        is(due, warden, "me", Write.INT, 12);
        is(due, warden, "role(5)", Write.TRUTH, 1);
        is(due, warden, "list[0]", Write.INT, 8);
        Write.define(warden, 0, "a");
        Write.define(warden, 1, "b");
        warden.ask(0, Integer.MIN_VALUE, 0);
        due.same("the least a", warden.asked(), Integer.MIN_VALUE);
        warden.ask(1, 0, Long.MIN_VALUE);
        due.same("the least b", warden.asked(), Long.MIN_VALUE);
        warden.ask(1, 0, Long.MAX_VALUE);
        due.same("the largest b", warden.asked(), Long.MAX_VALUE);
    }

    private static void neitherItNorRetIsKnown(Due due) {
        MethodWarden warden = new MethodWarden();
        warden.login(1, 0);
        warden.add(8);
        warden.target(0, 2, 0, 0);
        Write.define(warden, 0, "it == 8 & ret.size == 1");
        Write.define(warden, 1, "ret.size == 1");
        warden.rules(0, -1, 1, 0);
        warden.call(0, 0, 0);
        due.same("both were known in the call", warden.number(), 1);
        is(due, warden, "it", Write.ERROR, 0);
        is(due, warden, "ret", Write.ERROR, 0);
        is(due, warden, "ret ?: 1", Write.ERROR, 0);
        is(due, warden, "it == null", Write.ERROR, 0);
        is(due, warden, "list.^[it == 8]", Write.INT, 8);
        is(due, warden, "list.?[true].size + it", Write.ERROR, 0);
        due.same("the call's answer stays", warden.itemAt(0), 8);
    }

    private static void aRefusedAskChangesNothing(Due due) {
        MethodWarden warden = new MethodWarden();
        due.same("there was none", warden.asked(), 0);
        warden.ask(0, 0, 0);
        due.same("there was none that was not refused", warden.asked(), 0);
        is(due, warden, "41 + 1", Write.INT, 42);
        warden.ask(3, 0, 0);
        warden.ask(-1, 0, 0);
        due.same("the latest that was not refused", warden.asked(), 42);
        warden.call(0, 0, 0);
        Write.define(warden, 7, "1");
        due.same("nothing else changes it", warden.asked(), 42);
        is(due, warden, "it", Write.ERROR, 0);
    }
}
