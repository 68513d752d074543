/** Promises 7 and 8: add and empty. */
public final class ListTest {
    public static void main(String[] args) {
        Due due = new Due("ListTest");
        takesFiveItems(due);
        callsDoNotChangeIt(due);
        emptyMakesRoom(due);
        due.finish();
    }

    private static void takesFiveItems(Due due) {
        MethodWarden warden = new MethodWarden();
        int[] items = {7, -1, Integer.MIN_VALUE, Integer.MAX_VALUE, 7};
        for (int item : items) {
            due.yes("add(" + item + ")", warden.add(item));
        }
        due.no("a sixth item", warden.add(1));
        due.same("size", Write.answer(warden, "list.size"), 5);
        for (int k = 0; k < 5; k++) {
            due.same("item " + k, Write.answer(warden, "list[a]", k, 0), items[k]);
        }
    }

    private static void callsDoNotChangeIt(Due due) {
        MethodWarden warden = new MethodWarden();
        warden.login(1, 0);
        warden.add(4);
        warden.add(5);
        Write.define(warden, 0, "it > 4");
        warden.rules(0, 0, -1, 0);
        warden.target(0, 2, 10, 0);
        due.same("call", warden.call(0, 0, 0), 0);
        due.same("what came back", warden.itemAt(0), 15);
        due.same("the list", Write.answer(warden, "list.size"), 2);
        due.same("its first item", Write.answer(warden, "list[0]"), 4);
        warden.call(0, 0, 0);
        due.same("the next call begins with it again", warden.itemAt(0), 15);
        warden.empty();
        due.same("what came back stays", warden.itemAt(0), 15);
        warden.add(9);
        due.same("what came back stays", warden.itemAt(0), 15);
    }

    private static void emptyMakesRoom(Due due) {
        MethodWarden warden = new MethodWarden();
        warden.empty();
        due.same("an empty list emptied", Write.answer(warden, "list.size"), 0);
        for (int k = 0; k < 6; k++) {
            warden.add(k);
        }
        warden.empty();
        due.same("emptied", Write.answer(warden, "list.size"), 0);
        due.yes("room again", warden.add(8));
        due.same("one item", Write.answer(warden, "list.size"), 1);
        due.same("the new item", Write.answer(warden, "list[0]"), 8);
    }
}
