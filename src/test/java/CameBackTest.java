/** Promises 13, 14 and 15: kind, number and itemAt. */
public final class CameBackTest {
    public static void main(String[] args) {
        Due due = new Due("CameBackTest");
        MethodWarden warden = new MethodWarden();
        Write.define(warden, 0, "false");
        warden.add(4);
        warden.add(5);
        warden.target(0, 0, 8, 0);
        warden.target(1, 1, 8, 0);
        warden.target(2, 2, 8, 0);
        warden.target(3, 3, 8, 0);
        warden.guard(4, 2, 0);
        warden.rules(5, -1, 0, -1);
        warden.target(5, 1, 8, 0);
        warden.target(6, 5, 2, 0);

        after(due, warden, "no call", -1, 0, 0);
        warden.call(2, 1, 0);
        after(due, warden, "a LIST", 2, 2, 12);
        due.same("item 1", warden.itemAt(1), 13);
        int[] noItems = {-1, 2, 3, 4, 5, 6, Integer.MIN_VALUE, Integer.MAX_VALUE};
        for (int k : noItems) {
            due.same("item " + k, warden.itemAt(k), 0);
        }
        warden.call(1, 1, 0);
        after(due, warden, "an INT", 1, 9, 0);
        warden.call(2, 1, 0);
        warden.call(0, 1, 0);
        after(due, warden, "NOTHING", 0, 0, 0);
        warden.call(2, 1, 0);
        warden.call(3, 1, 0);
        after(due, warden, "END 1", -1, 8, 0);
        warden.call(4, 1, 0);
        after(due, warden, "END 3", -1, 0, 0);
        warden.login(1, 1);
        warden.call(2, 1, 0);
        warden.call(4, 1, 0);
        after(due, warden, "END 2", -1, 0, 0);
        warden.call(5, 1, 0);
        after(due, warden, "END 4", -1, 0, 0);
        warden.call(6, 1, 0);
        after(due, warden, "what an inner call gave back", 2, 2, 12);
        staysUntilTheNextCall(due, warden);
        oneBetweenIsNotTheLatest(due, warden);
        due.finish();
    }

    private static void after(Due due, MethodWarden warden, String what, int kind, int number, int item) {
        due.same(what + ": kind", warden.kind(), kind);
        due.same(what + ": number", warden.number(), number);
        due.same(what + ": itemAt(0)", warden.itemAt(0), item);
    }

    private static void staysUntilTheNextCall(Due due, MethodWarden warden) {
        warden.call(9, 1, 0);
        warden.call(-1, 1, 0);
        warden.empty();
        warden.add(77);
        Write.answer(warden, "list.?[it > 3]");
        warden.target(2, 3, 1, 0);
        warden.login(-1, 0);
        after(due, warden, "other calls change nothing", 2, 2, 12);
        due.same("nor the second item", warden.itemAt(1), 13);
    }

    private static void oneBetweenIsNotTheLatest(Due due, MethodWarden warden) {
        warden.login(1, 1);
        Write.define(warden, 1, "ret == 9");
        warden.rules(6, -1, 1, -1);
        warden.target(6, 5, 1, 0);
        warden.call(6, 1, 0);
        after(due, warden, "the inner call's INT came back", 1, 9, 0);
        warden.call(6, 2, 0);
        after(due, warden, "the inner call's END was 0, that of the outer 4", -1, 0, 0);
    }
}
