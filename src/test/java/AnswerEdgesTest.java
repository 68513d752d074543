import java.util.Arrays;

/** Promises 12 to 18: a test for each sentence that names an edge. */
public final class AnswerEdgesTest {
    private static final int LEAST = Integer.MIN_VALUE;
    private static final int MOST = Integer.MAX_VALUE;

    private final Due due = new Due("AnswerEdgesTest");

    public static void main(String[] args) {
        AnswerEdgesTest test = new AnswerEdgesTest();
        test.call();
        test.cameBack();
        test.count();
        test.ask();
        test.fiveHundredAndTwelveCalls();
        test.due.finish();
    }

    private void call() {
        methodsToCall();
        itsEnd();
        argumentsAndList();
    }

    private void cameBack() {
        kindOfTheLatest();
        kindWhenNothingCameBack();
        madeFromOutside();
        numberOfWhatCameBack();
        numberThrown();
        numberOtherwise();
        items();
        noItems();
    }

    private void count() {
        countsOfEnds();
        countsOfEntering();
        countsOfOthers();
    }

    private void ask() {
        slotsToAsk();
        kindsOfAnswers();
        presentContext();
        neitherItNorRet();
        theLatestAsk();
        valuesAsked();
        noneAsked();
    }

    // ---- a scene with each END

    /** Methods 0 to 4 have these ENDs for user 1; 5 gives back an INT, 6 a LIST, 7 NOTHING. */
    private static MethodWarden ends() {
        MethodWarden warden = new MethodWarden();
        warden.login(1, 0);
        warden.add(40);
        warden.add(50);
        Write.define(warden, 0, "false");
        warden.target(0, 2, 1, 0);
        warden.target(1, 3, -6, 0);
        warden.guard(2, 2, 0);
        warden.target(3, 6, 2, 0);
        warden.target(4, 1, 9, 0);
        warden.rules(4, -1, 0, -1);
        warden.target(5, 1, 9, 0);
        warden.target(6, 4, 9, 0);
        return warden;
    }

    private void after(String what, MethodWarden warden, int kind, int number, int... items) {
        due.same(what + ": kind", warden.kind(), kind);
        due.same(what + ": number", warden.number(), number);
        for (int k = 0; k < 5; k++) {
            due.same(what + ": item " + k, warden.itemAt(k), k < items.length ? items[k] : 0);
        }
    }

    // ---- promise 12

    private void methodsToCall() {
        due.about("Refused (-1) when m is not 0 .. 7.");
        MethodWarden warden = ends();
        warden.call(0, 0, 0);
        for (int m : new int[] {-1, 8, -2, 9, LEAST, MOST}) {
            due.same("method " + m, warden.call(m, 0, 0), -1);
            after("the one before is the latest", warden, 2, 2, 41, 51);
        }
        for (int m = 0; m <= 7; m++) {
            due.same("method " + m, warden.call(m, 0, 0), m < 5 ? m : 0);
        }
    }

    private void itsEnd() {
        due.about("its END, 0 to 4");
        for (int end = 0; end <= 4; end++) {
            MethodWarden warden = ends();
            due.same("END " + end, warden.call(end, 0, 0), end);
            due.same("counted as such", warden.count(end, end), 1);
        }
    }

    private void argumentsAndList() {
        due.about("A CALL of method m with these arguments and the list as it was put together");
        MethodWarden warden = new MethodWarden();
        warden.login(1, 0);
        Write.define(warden, 0, "a == -2147483647 - 1");
        Write.define(warden, 1, "b == -9223372036854775807L - 1");
        Write.define(warden, 2, "a == 2147483647 & b == 9223372036854775807L");
        for (int m = 0; m <= 2; m++) {
            warden.guard(m, 4, m);
        }
        due.same("the least a", warden.call(0, LEAST, 0), 0);
        due.same("another a", warden.call(0, LEAST + 1, 0), 2);
        due.same("the least b", warden.call(1, 0, Long.MIN_VALUE), 0);
        due.same("another b", warden.call(1, 0, Long.MIN_VALUE + 1), 2);
        due.same("the largest", warden.call(2, MOST, Long.MAX_VALUE), 0);
        due.same("another", warden.call(2, MOST, Long.MAX_VALUE - 1), 2);
        warden.target(3, 4, 0, 0);
        int[] items = {5, 4, 3, 2, 1};
        for (int size = 0; size <= 5; size++) {
            warden.call(3, 0, 0);
            after("a list of " + size, warden, 2, size, Arrays.copyOf(items, size));
            warden.add(size < 5 ? items[size] : 0);
        }
    }

    // ---- promises 13, 14 and 15

    private void kindOfTheLatest() {
        due.about("What came back from the latest CALL made from outside: 0 NOTHING, 1 an INT, 2 a LIST");
        MethodWarden warden = ends();
        warden.call(7, 0, 0);
        after("NOTHING", warden, 0, 0);
        warden.call(5, -9, 0);
        after("the INT 0", warden, 1, 0);
        warden.call(6, 0, 0);
        after("a LIST", warden, 2, 2, 40, 50);
        warden.empty();
        after("the list is emptied", warden, 2, 2, 40, 50);
        warden.call(6, 0, 0);
        after("an empty LIST", warden, 2, 0);
        warden.call(7, 0, 0);
        after("NOTHING after a LIST", warden, 0, 0);
    }

    private void kindWhenNothingCameBack() {
        due.about("-1 when its END was not 0, or there was none");
        due.same("none", new MethodWarden().kind(), -1);
        MethodWarden refused = new MethodWarden();
        refused.call(8, 0, 0);
        refused.call(-1, 0, 0);
        due.same("none but refused ones", refused.kind(), -1);
        for (int end = 1; end <= 4; end++) {
            MethodWarden warden = ends();
            warden.call(6, 0, 0);
            due.same("a LIST before", warden.kind(), 2);
            warden.call(end, 0, 0);
            due.same("END " + end, warden.kind(), -1);
            warden.call(7, 0, 0);
            due.same("NOTHING afterwards", warden.kind(), 0);
        }
    }

    private void madeFromOutside() {
        due.about("the latest CALL made from outside");
        MethodWarden warden = ends();
        Write.define(warden, 1, "true");
        warden.target(7, 5, 6, 0);
        Write.define(warden, 2, "it > 45");
        warden.rules(7, -1, -1, 2);
        warden.call(7, 0, 0);
        after("what the one around lets out", warden, 2, 1, 50);
        warden.rules(7, -1, 0, -1);
        warden.call(7, 0, 0);
        after("the one within had END 0, the one around not", warden, -1, 0);
        warden.rules(7, -1, -1, -1);
        warden.target(7, 5, 1, 0);
        warden.call(7, 0, 0);
        after("the number thrown within", warden, -1, -6);
    }

    private void numberOfWhatCameBack() {
        due.about("The INT that came back from that call, or how many items the LIST has");
        MethodWarden warden = ends();
        for (int a : new int[] {LEAST, -10, -9, -8, 0, MOST}) {
            warden.call(5, a, 0);
            after("an INT", warden, 1, a + 9);
        }
        warden.empty();
        for (int size = 0; size <= 5; size++) {
            warden.call(6, 0, 0);
            due.same("items", warden.number(), size);
            warden.add(size);
        }
        warden.call(6, 0, 0);
        due.same("never more than five", warden.number(), 5);
    }

    private void numberThrown() {
        due.about("when its END was 1, the number thrown");
        MethodWarden warden = ends();
        for (int k : new int[] {LEAST, -1, 0, 1, MOST}) {
            warden.target(1, 3, k, 0);
            warden.call(1, 0, 0);
            after("thrown", warden, -1, k);
            warden.target(7, 5, 1, 0);
            warden.call(7, 0, 0);
            after("thrown within", warden, -1, k);
        }
        warden.target(7, 5, 7, 0);
        warden.target(1, 3, 44, 0);
        warden.call(1, 0, 0);
        warden.call(7, 0, 0);
        after("too deep", warden, -1, -1);
    }

    private void numberOtherwise() {
        due.about("otherwise 0");
        due.same("no call", new MethodWarden().number(), 0);
        for (int end = 2; end <= 4; end++) {
            MethodWarden warden = ends();
            warden.call(1, 0, 0);
            warden.call(end, 0, 0);
            due.same("END " + end + " after a throw", warden.number(), 0);
            warden.call(5, 0, 0);
            warden.call(end, 0, 0);
            due.same("END " + end + " after an INT", warden.number(), 0);
            warden.call(6, 0, 0);
            warden.call(end, 0, 0);
            due.same("END " + end + " after a LIST", warden.number(), 0);
            warden.call(1, 0, 0);
            warden.call(7, 0, 0);
            due.same("NOTHING after a throw", warden.number(), 0);
            warden.call(6, 0, 0);
            warden.call(7, 0, 0);
            due.same("NOTHING after a LIST", warden.number(), 0);
        }
    }

    private void items() {
        due.about("Item k, from 0, of the LIST that came back from that call");
        MethodWarden warden = ends();
        warden.empty();
        int[] items = {LEAST, MOST, 0, -1, 7};
        for (int item : items) {
            warden.add(item);
        }
        warden.call(6, 0, 0);
        after("a full LIST", warden, 2, 5, items);
    }

    private void noItems() {
        due.about("0 when no LIST came back or it has no such item");
        due.same("no call", new MethodWarden().itemAt(0), 0);
        int[] places = {-1, -2, 2, 3, 4, 5, 6, LEAST, MOST};
        MethodWarden warden = ends();
        // Three more items of an earlier LIST must not be seen behind the two of a later one.
        for (int k = 0; k < 3; k++) {
            warden.add(60);
        }
        warden.call(6, 0, 0);
        due.same("item 4 of five", warden.itemAt(4), 60);
        due.same("item 5 of five", warden.itemAt(5), 0);
        due.same("item -1 of five", warden.itemAt(-1), 0);
        warden.empty();
        warden.add(70);
        warden.add(80);
        warden.call(6, 0, 0);
        due.same("item 1 of two", warden.itemAt(1), 80);
        for (int k : places) {
            due.same("item " + k + " of two", warden.itemAt(k), 0);
        }
        for (int m : new int[] {1, 2, 3, 4, 5, 7}) {
            warden.call(6, 0, 0);
            warden.call(m, 0, 0);
            for (int k = 0; k <= 1; k++) {
                due.same("item " + k + " after method " + m, warden.itemAt(k), 0);
            }
        }
    }

    // ---- promise 16

    private void countsOfEnds() {
        due.about("How many calls of method m, also those made by targets, had the END so far");
        MethodWarden warden = ends();
        warden.target(7, 5, 0, 0);
        for (int times = 1; times <= 3; times++) {
            for (int m = 0; m <= 4; m++) {
                warden.call(m, 0, 0);
                due.same("count(" + m + ", " + m + ")", warden.count(m, m), m == 0 ? 2 * times - 1 : times);
            }
            warden.call(7, 0, 0);
            due.same("of the one around", warden.count(7, 0), times);
            due.same("of the one within", warden.count(0, 0), 2 * times);
        }
        due.same("3 called 2 as nobody", warden.count(2, 3), 3);
        for (int m : new int[] {-1, 8}) {
            warden.call(m, 0, 0);
        }
        int[][] counts = {{6, 0, 0, 0, 0, 6}, {0, 3, 0, 0, 0, 3}, {0, 0, 3, 3, 0, 0}, {0, 0, 0, 3, 0, 3},
            {0, 0, 0, 0, 3, 3}, {0, 0, 0, 0, 0, 0}, {0, 0, 0, 0, 0, 0}, {3, 0, 0, 0, 0, 3}};
        for (int m = 0; m <= 7; m++) {
            for (int end = 0; end <= 5; end++) {
                due.same("count(" + m + ", " + end + ")", warden.count(m, end), counts[m][end]);
            }
        }
    }

    private void countsOfEntering() {
        due.about("with end 5, how many times its target was entered");
        MethodWarden warden = new MethodWarden();
        warden.target(0, 5, 0, 0);
        warden.call(0, 0, 0);
        due.same("one that calls itself", warden.count(0, 5), 8);
        due.same("each throws", warden.count(0, 1), 8);
        warden.guard(0, 2, 0);
        warden.call(0, 0, 0);
        due.same("not when nobody may", warden.count(0, 5), 8);
        warden.login(1, 0);
        warden.call(0, 0, 0);
        due.same("not when it is shut", warden.count(0, 5), 8);
        warden.guard(0, 0, 0);
        warden.target(0, 1, 0, 0);
        Write.define(warden, 0, "true");
        warden.rules(0, -1, -1, 0);
        warden.call(0, 0, 0);
        due.same("even when the answer is held back", warden.count(0, 5), 9);
        due.same("which is so", warden.count(0, 4), 1);
    }

    private void countsOfOthers() {
        due.about("0 when m is not 0 .. 7 or end not 0 .. 5.");
        MethodWarden warden = new MethodWarden();
        for (int m = 0; m <= 7; m++) {
            warden.call(m, 0, 0);
            due.same("method " + m, warden.count(m, 0), 1);
            due.same("method " + m + ", entered", warden.count(m, 5), 1);
            for (int end : new int[] {-1, 6, -2, 7, LEAST, MOST}) {
                due.same("method " + m + ", end " + end, warden.count(m, end), 0);
            }
        }
        for (int m : new int[] {-1, 8, -2, 9, LEAST, MOST}) {
            for (int end = -1; end <= 6; end++) {
                due.same("method " + m + ", end " + end, warden.count(m, end), 0);
            }
        }
    }

    // ---- promises 17 and 18

    private void slotsToAsk() {
        due.about("Refused (-2) when slot is not 0 .. 7 or has no expression.");
        MethodWarden warden = new MethodWarden();
        for (int slot = 0; slot <= 7; slot++) {
            due.same("slot " + slot + " without one", warden.ask(slot, 0, 0), -2);
            Write.define(warden, slot, "5" + slot);
            due.same("slot " + slot, warden.ask(slot, 0, 0), Write.INT);
            due.same("its value", warden.asked(), 50 + slot);
            for (int other : new int[] {-1, 8, -2, 9, LEAST, MOST}) {
                due.same("slot " + other, warden.ask(other, 0, 0), -2);
                due.same("the value stays", warden.asked(), 50 + slot);
            }
        }
    }

    private void asks(MethodWarden warden, String text, int sort, long worth) {
        due.same("sort of " + text, Write.sort(warden, text, 0, 0), sort);
        due.same("value of " + text, warden.asked(), worth);
    }

    private void kindsOfAnswers() {
        due.about("Answers -1 for ERROR, 0 for NOTHING, 1 for a TRUTH, 2 for an INT, 3 for a LONG, 4 for a LIST.");
        MethodWarden warden = new MethodWarden();
        asks(warden, "1/0", -1, 0);
        asks(warden, "null", 0, 0);
        asks(warden, "true", 1, 1);
        asks(warden, "false", 1, 0);
        asks(warden, "6", 2, 6);
        asks(warden, "6L", 3, 6);
        asks(warden, "list", 4, 0);
    }

    private void presentContext() {
        due.about("Works out the expression of the slot in the present context, with these arguments and the list as it "
                + "was put together");
        MethodWarden warden = new MethodWarden();
        Write.define(warden, 0, "me");
        Write.define(warden, 1, "role(a)");
        Write.define(warden, 2, "list.size");
        Write.define(warden, 3, "b");
        due.same("nobody", warden.ask(0, 0, 0), Write.NOTHING);
        warden.login(999, 1 << 15);
        due.same("somebody", warden.ask(0, 0, 0), Write.INT);
        due.same("who", warden.asked(), 999);
        for (int role = 0; role <= 15; role++) {
            warden.ask(1, role, 0);
            due.same("role " + role, warden.asked(), role == 15 ? 1 : 0);
        }
        warden.senior(15, 0);
        warden.ask(1, 0, 0);
        due.same("role 0 now", warden.asked(), 1);
        warden.target(0, 4, 5, 65535);
        warden.call(0, 0, 0);
        warden.ask(0, 0, 0);
        due.same("not one whom a target made", warden.asked(), 999);
        for (int size = 0; size <= 5; size++) {
            warden.ask(2, 0, 0);
            due.same("size", warden.asked(), size);
            warden.add(0);
        }
        for (long b : new long[] {Long.MIN_VALUE, -1, 0, 4294967296L, Long.MAX_VALUE}) {
            warden.ask(3, 0, b);
            due.same("b", warden.asked(), b);
        }
        warden.login(-1, 0);
        due.same("nobody again", warden.ask(0, 0, 0), Write.NOTHING);
    }

    private void neitherItNorRet() {
        due.about("neither it nor ret is known");
        MethodWarden warden = ends();
        warden.call(6, 0, 0);
        asks(warden, "it", Write.ERROR, 0);
        asks(warden, "ret", Write.ERROR, 0);
        Write.define(warden, 0, "it > 45 & ret.size == 2");
        warden.rules(6, -1, -1, 0);
        warden.call(6, 0, 0);
        due.same("both are known in a filter out", warden.number(), 1);
        due.same("but not to ask", warden.ask(0, 0, 0), Write.ERROR);
        asks(warden, "ret == null", Write.ERROR, 0);
        asks(warden, "it == null", Write.ERROR, 0);
        asks(warden, "list.?[it > 45]", Write.LIST, 1);
        asks(warden, "list.?[ret == 1]", Write.ERROR, 0);
    }

    private void theLatestAsk() {
        due.about("The value that the latest ask that was not refused worked out");
        MethodWarden warden = new MethodWarden();
        warden.add(3);
        asks(warden, "17", Write.INT, 17);
        warden.ask(6, 0, 0);
        warden.ask(8, 0, 0);
        due.same("refused ones don't count", warden.asked(), 17);
        Write.define(warden, 7, "18");
        due.same("nor does define", warden.asked(), 17);
        warden.call(0, 0, 0);
        warden.empty();
        warden.login(3, 3);
        due.same("nor any other call", warden.asked(), 17);
        due.same("nor asking twice", warden.asked(), 17);
        asks(warden, "1/0", Write.ERROR, 0);
        asks(warden, "19", Write.INT, 19);
        asks(warden, "null", Write.NOTHING, 0);
    }

    private void valuesAsked() {
        due.about("the NUMBER, 1 for true and 0 for false, how many items of a LIST, 0 for NOTHING and ERROR");
        MethodWarden warden = new MethodWarden();
        Write.define(warden, 0, "a");
        Write.define(warden, 1, "b");
        Write.define(warden, 2, "list");
        for (int a : new int[] {LEAST, -1, 0, 1, MOST}) {
            warden.ask(0, a, 0);
            due.same("an INT", warden.asked(), a);
        }
        for (long b : new long[] {Long.MIN_VALUE, LEAST - 1L, -1, 0, 1, MOST + 1L, Long.MAX_VALUE}) {
            warden.ask(1, 0, b);
            due.same("a LONG", warden.asked(), b);
        }
        for (int size = 0; size <= 5; size++) {
            warden.ask(2, 0, 0);
            due.same("a LIST", warden.asked(), size);
            warden.add(99);
        }
        for (String text : new String[] {"null", "false", "1/0", "list[9]", "list.^[false]"}) {
            warden.ask(2, 0, 0);
            Write.sort(warden, text, 0, 0);
            due.same(text + " after a LIST of five", warden.asked(), 0);
        }
        Write.sort(warden, "true", 0, 0);
        due.same("true", warden.asked(), 1);
    }

    private void noneAsked() {
        due.about("0 when there was none");
        MethodWarden warden = new MethodWarden();
        due.same("a new object", warden.asked(), 0);
        warden.ask(-1, 5, 5);
        warden.ask(0, 5, 5);
        warden.ask(8, 5, 5);
        due.same("none but refused ones", warden.asked(), 0);
    }

    // ---- the object's last call

    private void fiveHundredAndTwelveCalls() {
        due.about("An object is used for at most 512 calls after it has been made");
        MethodWarden calling = new MethodWarden();
        calling.target(0, 5, 0, 0);
        for (int k = 0; k < 510; k++) {
            calling.call(0, 0, 0);
        }
        due.same("the 512th call", calling.count(0, 5), 8 * 510);
        MethodWarden counting = new MethodWarden();
        for (int k = 0; k < 511; k++) {
            counting.call(7, 0, 0);
        }
        due.same("the 512th call", counting.count(7, 0), 511);
        MethodWarden defining = new MethodWarden();
        for (int k = 0; k < 255; k++) {
            defining.type('a');
            due.same("define, call " + (2 * k + 2), defining.define(k % 8), -1);
        }
        due.same("the 511th call", defining.ask(0, -5, 0), Write.INT);
        due.same("the 512th call", defining.asked(), -5);
    }
}
