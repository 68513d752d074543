/** Promise 16: count. */
public final class CountTest {
    public static void main(String[] args) {
        Due due = new Due("CountTest");
        countsEachEnd(due);
        countsCallsOfTargets(due);
        outOfRangeIsNought(due);
        due.finish();
    }

    private static void counts(Due due, MethodWarden warden, int m, int... wants) {
        for (int end = 0; end < 6; end++) {
            due.same("count(" + m + ", " + end + ")", warden.count(m, end), wants[end]);
        }
    }

    private static void countsEachEnd(Due due) {
        MethodWarden warden = new MethodWarden();
        Write.define(warden, 0, "a == 1");
        warden.guard(2, 4, 0);
        warden.call(2, 0, 0);
        warden.call(2, 1, 0);
        counts(due, warden, 2, 0, 0, 0, 2, 0, 0);
        warden.login(1, 1);
        warden.call(2, 0, 0);
        counts(due, warden, 2, 0, 0, 1, 2, 0, 0);
        warden.call(2, 1, 0);
        warden.call(2, 1, 0);
        warden.call(2, 1, 0);
        counts(due, warden, 2, 3, 0, 1, 2, 0, 3);
        warden.target(2, 3, 0, 0);
        warden.call(2, 1, 0);
        counts(due, warden, 2, 3, 1, 1, 2, 0, 4);
        warden.target(2, 1, 0, 0);
        warden.rules(2, -1, -1, 0);
        warden.call(2, 1, 0);
        counts(due, warden, 2, 3, 1, 1, 2, 1, 5);
        warden.call(8, 1, 0);
        counts(due, warden, 2, 3, 1, 1, 2, 1, 5);
        counts(due, warden, 3, 0, 0, 0, 0, 0, 0);
    }

    private static void countsCallsOfTargets(Due due) {
        MethodWarden warden = new MethodWarden();
        warden.target(0, 5, 1, 0);
        warden.target(1, 5, 7, 0);
        warden.call(0, 0, 0);
        for (int m : new int[] {0, 1, 7}) {
            counts(due, warden, m, 1, 0, 0, 0, 0, 1);
        }
        warden.target(7, 5, 7, 0);
        warden.call(0, 0, 0);
        counts(due, warden, 0, 1, 1, 0, 0, 0, 2);
        counts(due, warden, 1, 1, 1, 0, 0, 0, 2);
        // Six more calls of 7 are within the first two; the ninth is not made.
        counts(due, warden, 7, 1, 6, 0, 0, 0, 7);
        warden.guard(9, 2, 0);
        warden.call(1, 0, 0);
        counts(due, warden, 1, 1, 1, 0, 1, 0, 3);
        counts(due, warden, 7, 1, 6, 0, 1, 0, 7);
        warden.ask(0, 0, 0);
        counts(due, warden, 7, 1, 6, 0, 1, 0, 7);
    }

    private static void outOfRangeIsNought(Due due) {
        MethodWarden warden = new MethodWarden();
        warden.call(0, 0, 0);
        warden.call(7, 0, 0);
        int[] methods = {-1, 8, Integer.MIN_VALUE, Integer.MAX_VALUE};
        for (int m : methods) {
            due.same("count(" + m + ", 0)", warden.count(m, 0), 0);
        }
        int[] ends = {-1, 6, Integer.MIN_VALUE, Integer.MAX_VALUE};
        for (int end : ends) {
            due.same("count(0, " + end + ")", warden.count(0, end), 0);
            due.same("count(7, " + end + ")", warden.count(7, end), 0);
        }
    }
}
