/** Promise 12: call, and from the terms the steps of a CALL. */
public final class CallTest {
    private static final String LIST_OF_THREE = "3 5 8";

    public static void main(String[] args) {
        Due due = new Due("CallTest");
        refusesOtherMethods(due);
        wantsACallerFirst(due);
        filtersIn(due);
        guardsAfterTheFilterIn(due);
        handsOnWhatTheInnerCallEndsWith(due);
        goesEightDeep(due);
        givesTheContextBack(due);
        checks(due);
        filtersOut(due);
        eachCallHasItsOwnRules(due);
        due.finish();
    }

    private static MethodWarden with(String items) {
        MethodWarden warden = new MethodWarden();
        warden.login(1, 1);
        for (String item : items.split(" ")) {
            warden.add(Integer.parseInt(item));
        }
        warden.target(0, 2, 0, 0);
        return warden;
    }

    private static void refusesOtherMethods(Due due) {
        MethodWarden warden = with(LIST_OF_THREE);
        warden.call(0, 0, 0);
        int[] wrong = {-1, 8, 9, Integer.MIN_VALUE, Integer.MAX_VALUE};
        for (int m : wrong) {
            due.same("call(" + m + ")", warden.call(m, 0, 0), -1);
        }
        due.same("what came back before stays", warden.number(), 3);
        due.same("what came back before stays", warden.kind(), 2);
    }

    private static void wantsACallerFirst(Due due) {
        MethodWarden warden = with(LIST_OF_THREE);
        Write.define(warden, 0, "1 / 0");
        warden.rules(0, 0, 0, 0);
        warden.guard(0, 2, 0);
        warden.login(-1, 0);
        due.same("nobody", warden.call(0, 0, 0), 3);
        warden.login(0, 0);
        due.same("somebody", warden.call(0, 0, 0), 2);
    }

    /** Calls method 0 with this filter in and gives END, items and first item as one number. */
    private static long in(MethodWarden warden, String text) {
        Write.define(warden, 0, text);
        warden.rules(0, 0, -1, -1);
        int end = warden.call(0, 2, 5);
        return end * 10000L + warden.number() * 100L + warden.itemAt(0);
    }

    private static void filtersIn(Due due) {
        MethodWarden warden = with(LIST_OF_THREE);
        due.same("all", in(warden, "true"), 303);
        due.same("none", in(warden, "false"), 0);
        due.same("some", in(warden, "it > 4"), 205);
        due.same("a, b and me are known", in(warden, "it > a + b + me - 1"), 108);
        due.same("list is the whole list", in(warden, "list.size == 3 & list[0] < it"), 205);
        due.same("it of an ending, then of the filter", in(warden, "list.^[it > 4] == it"), 105);
        due.same("it before an ending within", in(warden, "it > list.^[it > 4]"), 108);
        due.same("no TRUTH", in(warden, "it"), 20000);
        due.same("no TRUTH for the last one", in(warden, "it < 8 ? true : null"), 20000);
        due.same("ERROR for the first one", in(warden, "1 / (it - 3) >= 0"), 20000);
        due.same("ret is not known", in(warden, "ret == null"), 20000);
        due.same("ret is not needed", in(warden, "it > 0 | ret == null"), 303);
        warden.empty();
        due.same("of an empty list it is not worked out", in(warden, "1 / 0"), 0);
    }

    private static void guardsAfterTheFilterIn(Due due) {
        MethodWarden warden = with(LIST_OF_THREE);
        Write.define(warden, 0, "it > 4");
        Write.define(warden, 1, "list.size == 2 & a == 6 & b == 7L");
        Write.define(warden, 2, "it == 3 | true");
        warden.rules(0, 0, -1, -1);
        warden.guard(0, 4, 1);
        due.same("the guard sees the filtered list", warden.call(0, 6, 7), 0);
        due.same("the guard sees a", warden.call(0, 7, 7), 2);
        warden.guard(0, 4, 2);
        due.same("it is not known there", warden.call(0, 6, 7), 2);
        warden.guard(0, 0, 0);
        warden.guard(0, 2, 0);
        due.same("shut", warden.call(0, 6, 7), 2);
        due.same("so it is entered twice less", warden.count(0, 5), 1);
    }

    private static void handsOnWhatTheInnerCallEndsWith(Due due) {
        MethodWarden warden = with(LIST_OF_THREE);
        Write.define(warden, 0, "false");
        Write.define(warden, 1, "true");
        warden.target(0, 5, 1, 0);
        warden.rules(0, -1, 1, 1);
        warden.target(1, 3, 55, 0);
        due.same("END 1", warden.call(0, 0, 0), 1);
        due.same("the number thrown within", warden.number(), 55);
        warden.guard(1, 2, 0);
        due.same("END 2", warden.call(0, 0, 0), 2);
        due.same("no number", warden.number(), 0);
        warden.target(0, 6, 1, 0);
        due.same("END 3", warden.call(0, 0, 0), 3);
        warden.target(0, 5, 1, 0);
        warden.guard(1, 0, 0);
        warden.target(1, 1, 0, 0);
        warden.rules(1, -1, 0, -1);
        due.same("END 4", warden.call(0, 0, 0), 4);
        warden.rules(0, -1, 0, -1);
        warden.rules(1, -1, -1, -1);
        warden.target(1, 3, 56, 0);
        due.same("with another END there is no check", warden.call(0, 0, 0), 1);
    }

    private static void goesEightDeep(Due due) {
        MethodWarden warden = new MethodWarden();
        for (int m = 0; m < 8; m++) {
            warden.target(m, 5, (m + 1) % 8, 0);
        }
        due.same("round and round", warden.call(3, 0, 0), 1);
        due.same("the target throws -1", warden.number(), -1);
        for (int m = 0; m < 8; m++) {
            due.same("entered " + m, warden.count(m, 5), 1);
            due.same("END 1 of " + m, warden.count(m, 1), 1);
        }
        warden.target(7, 1, 1, 0);
        due.same("eight calls, each within the next", warden.call(0, 5, 0), 0);
        due.same("what the innermost gives back", warden.number(), 6);
        warden.target(7, 6, 7, 0);
        due.same("kind 6 goes no deeper", warden.call(0, 5, 0), 1);
        due.same("kind 6 goes no deeper", warden.number(), -1);
        warden.target(7, 3, 9, 0);
        warden.call(0, 5, 0);
        due.same("thrown in the innermost", warden.number(), 9);
    }

    private static void givesTheContextBack(Due due) {
        MethodWarden warden = with(LIST_OF_THREE);
        Write.define(warden, 0, "me == 1 & role(0) & !role(1)");
        // Method 0 lends role 1 to 1, which calls 2 as nobody; 1 and 0 check who is back.
        Write.define(warden, 1, "me == 1 & role(0) & role(1)");
        warden.target(0, 5, 1, 2);
        warden.target(1, 6, 2, 0);
        warden.target(2, 4, 77, 0);
        warden.rules(0, -1, 0, -1);
        warden.rules(1, -1, 1, -1);
        due.same("with END 0", warden.call(0, 0, 0), 0);
        due.same("context", warden.context(), 65537);
        warden.target(2, 3, 1, 0);
        due.same("with END 1", warden.call(0, 0, 0), 1);
        due.same("context", warden.context(), 65537);
        warden.guard(2, 2, 0);
        due.same("with END 3", warden.call(0, 0, 0), 3);
        due.same("context", warden.context(), 65537);
        warden.rules(1, -1, 0, -1);
        warden.guard(2, 0, 0);
        warden.target(2, 0, 0, 0);
        due.same("with END 4", warden.call(0, 0, 0), 4);
        due.same("context", warden.context(), 65537);
    }

    private static int check(MethodWarden warden, String text) {
        Write.define(warden, 0, text);
        warden.rules(0, -1, 0, -1);
        return warden.call(0, 2, 5);
    }

    private static void checks(Due due) {
        MethodWarden warden = with(LIST_OF_THREE);
        warden.target(0, 2, 1, 0);
        due.same("true", check(warden, "true"), 0);
        due.same("it passes all", warden.number(), 3);
        due.same("false", check(warden, "false"), 4);
        due.same("held back: kind", warden.kind(), -1);
        due.same("held back: number", warden.number(), 0);
        due.same("held back: item", warden.itemAt(0), 0);
        due.same("no TRUTH", check(warden, "1"), 4);
        due.same("NOTHING", check(warden, "null"), 4);
        due.same("ERROR", check(warden, "1 / 0 == 1"), 4);
        due.same("it is not known", check(warden, "it == it"), 4);
        due.same("ret and list", check(warden, "ret[0] == 4 & list[0] == 3 & ret != list"), 0);
        due.same("a, b, me", check(warden, "a == 2 & b == 5 & me == 1"), 0);
        warden.target(0, 1, 1, 0);
        due.same("ret is an INT", check(warden, "ret == 3 & ret != list"), 0);
        warden.target(0, 0, 1, 0);
        due.same("ret is NOTHING", check(warden, "ret == null & ret?.size == null"), 0);
        Write.define(warden, 1, "it > 4");
        Write.define(warden, 2, "list.size == 2 & ret == list");
        warden.target(0, 4, 1, 0);
        warden.rules(0, 1, 2, -1);
        due.same("list is what the target received", warden.call(0, 0, 0), 0);
    }

    private static int out(MethodWarden warden, String text) {
        Write.define(warden, 0, text);
        warden.rules(0, -1, -1, 0);
        return warden.call(0, 2, 5);
    }

    private static void filtersOut(Due due) {
        MethodWarden warden = with(LIST_OF_THREE);
        warden.target(0, 2, 1, 0);
        due.same("all", out(warden, "true"), 0);
        due.same("all", warden.number(), 3);
        due.same("some", out(warden, "it > 4"), 0);
        due.same("some", warden.number(), 2);
        due.same("some: first", warden.itemAt(0), 6);
        due.same("some: second", warden.itemAt(1), 9);
        due.same("some: no third", warden.itemAt(2), 0);
        due.same("ret is the whole list", out(warden, "ret.size == 3 & ret[2] > it"), 0);
        due.same("ret is the whole list", warden.number(), 2);
        due.same("list is what was received", out(warden, "list[0] + 1 == it"), 0);
        due.same("list is what was received", warden.number(), 1);
        due.same("no TRUTH", out(warden, "it"), 4);
        due.same("no TRUTH: kind", warden.kind(), -1);
        due.same("no TRUTH for the last one", out(warden, "it < 9 ? true : null"), 4);
        warden.target(0, 1, 1, 0);
        due.same("an INT", out(warden, "true"), 4);
        warden.target(0, 0, 1, 0);
        due.same("NOTHING", out(warden, "1 / 0"), 0);
        due.same("NOTHING", warden.kind(), 0);
        warden.target(0, 3, 4, 0);
        due.same("thrown", out(warden, "false"), 1);
        due.same("thrown", warden.number(), 4);
        warden.empty();
        warden.target(0, 2, 1, 0);
        due.same("an empty LIST", out(warden, "1 / 0"), 0);
        due.same("an empty LIST", warden.kind(), 2);
        warden.add(1);
        Write.define(warden, 1, "ret.size == 1");
        Write.define(warden, 2, "false");
        warden.rules(0, -1, 1, 2);
        due.same("the check sees what is not filtered yet", warden.call(0, 0, 0), 0);
        due.same("then it is", warden.number(), 0);
    }

    private static void eachCallHasItsOwnRules(Due due) {
        MethodWarden warden = with("1 2 3 4 5");
        Write.define(warden, 0, "it > 1");
        Write.define(warden, 1, "it > 2");
        Write.define(warden, 2, "list.size == 4 & ret.size == 2");
        Write.define(warden, 3, "list.size == 3 & ret.size == 3");
        Write.define(warden, 4, "it < 15");
        Write.define(warden, 5, "it > 13");
        warden.rules(0, 0, 2, 5);
        warden.rules(1, 1, 3, 4);
        warden.target(0, 5, 1, 0);
        warden.target(1, 2, 10, 0);
        due.same("call", warden.call(0, 0, 0), 0);
        due.same("items", warden.number(), 1);
        due.same("item", warden.itemAt(0), 14);
    }
}
