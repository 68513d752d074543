/** From the terms: what expressions are worth, asked as promise 17 says. */
public final class ExpressionTest {
    private final Due due = new Due("ExpressionTest");
    private final MethodWarden nobody = new MethodWarden();

    public static void main(String[] args) {
        ExpressionTest test = new ExpressionTest();
        test.truths();
        test.choices();
        test.sameness();
        test.order();
        test.intsAndLongs();
        test.division();
        test.prefixes();
        test.joiningFromTheLeft();
        test.binding();
        test.lists();
        test.endings();
        test.roles();
        test.twentyParts();
        test.errorsGoThrough();
        test.due.finish();
    }

    /** The list is 3 -1 4 -1 5, a is 7 and b is 70, user 21 has role 2, which includes 9. */
    private static MethodWarden scene() {
        MethodWarden warden = new MethodWarden();
        for (int item : new int[] {3, -1, 4, -1, 5}) {
            warden.add(item);
        }
        warden.login(21, 1 << 2);
        warden.senior(2, 9);
        return warden;
    }

    private void is(String text, int sort, long value) {
        MethodWarden warden = scene();
        due.same("sort of " + text, Write.sort(warden, text, 7, 70), sort);
        due.same("value of " + text, warden.asked(), value);
    }

    private void yes(String text) {
        is(text, Write.TRUTH, 1);
    }

    private void no(String text) {
        is(text, Write.TRUTH, 0);
    }

    private void error(String text) {
        is(text, Write.ERROR, 0);
    }

    private void truths() {
        yes("true | false");
        yes("false | true");
        no("false | false");
        yes("true & true");
        no("true & false");
        no("false & true");
        yes("true | 1 / 0");
        yes("true | null");
        no("false & 1 / 0");
        no("false & 5");
        error("false | 5");
        error("true & null");
        error("true & it");
        error("1 | true");
        error("null & false");
        error("0 | true");
        error("list & true");
        yes("!false");
        no("!true");
        error("!1");
        error("!null");
        error("!list");
    }

    private void choices() {
        is("true ? 1 : 2", Write.INT, 1);
        is("false ? 1 : 2", Write.INT, 2);
        is("true ? 1 : 1 / 0", Write.INT, 1);
        is("false ? it : 2L", Write.LONG, 2);
        is("true ? null : 1", Write.NOTHING, 0);
        is("false ? 1 : list", Write.LIST, 5);
        error("1 ? 1 : 2");
        error("null ? 1 : 2");
        error("true ? it : 2");
        is("false ? 1 : false ? 2 : 3", Write.INT, 3);
        is("true ? false ? 1 : 2 : 3", Write.INT, 2);
        is("null ?: 4", Write.INT, 4);
        is("3 ?: 1 / 0", Write.INT, 3);
        no("false ?: true");
        is("null ?: null", Write.NOTHING, 0);
        is("null ?: null ?: 6", Write.INT, 6);
        error("null ?: it");
        error("1 / 0 ?: 4");
        is("null ?: true ? 1 : 2", Write.INT, 1);
        yes("false ? 1 : null ?: true");
    }

    private void sameness() {
        yes("1 == 1");
        yes("1 == 1L");
        yes("4294967297L != 1");
        yes("b == 70");
        yes("null == null");
        no("null != null");
        yes("true == true");
        yes("false == false");
        no("true == false");
        no("true == 1");
        no("1 == true");
        no("false == 0");
        no("null == 0");
        no("null == false");
        yes("list != null");
        yes("list == list");
        no("list == 5");
        no("list == list.?[it > 0]");
        yes("list.?[it > 3] == list.?[it == 4 | it == 5]");
        no("list.?[it == 3] == list.?[it == 4]");
        no("list.?[it == 3] != list.?[it > 1 & it < 4]");
        yes("list.?[false] == list.?[it > 9]");
        no("list.?[false] == null");
        error("1 / 0 == 1 / 0");
        error("null == it");
        error("it != 1");
    }

    private void order() {
        yes("1 < 2");
        no("2 < 2");
        no("3 < 2");
        yes("2 <= 2");
        no("3 <= 2");
        yes("3 > 2");
        no("2 > 2");
        yes("2 >= 2");
        no("1 >= 2");
        yes("-1 < 0");
        yes("2147483647 < 2147483648L");
        yes("4294967296L > 1");
        error("true < false");
        error("null < 1");
        error("1 >= null");
        error("list > 1");
        error("1 < 2 < 3");
    }

    private void intsAndLongs() {
        is("2147483647 + 1", Write.INT, Integer.MIN_VALUE);
        is("2147483647 + 1L", Write.LONG, 2147483648L);
        is("1L + 2147483647", Write.LONG, 2147483648L);
        is("-2147483647 - 2", Write.INT, Integer.MAX_VALUE);
        is("65536 * 65536", Write.INT, 0);
        is("46341 * 46341", Write.INT, -2147479015);
        is("2147483647 * 2147483647", Write.INT, 1);
        is("65536 * 65536L", Write.LONG, 4294967296L);
        is("9223372036854775807L + 1", Write.LONG, Long.MIN_VALUE);
        is("9223372036854775807L * 2", Write.LONG, -2);
        is("-9223372036854775807L - 2", Write.LONG, Long.MAX_VALUE);
        is("a + a", Write.INT, 14);
        is("a * b", Write.LONG, 490);
        is("b - b", Write.LONG, 0);
        is("me + 1", Write.INT, 22);
        error("1 + true");
        error("true + 1");
        error("null * 1");
        error("1 - null");
        error("list + list");
    }

    private void division() {
        is("7 / 2", Write.INT, 3);
        is("-7 / 2", Write.INT, -3);
        is("7 / -2", Write.INT, -3);
        is("-7 / -2", Write.INT, 3);
        is("7 % 2", Write.INT, 1);
        is("-7 % 2", Write.INT, -1);
        is("7 % -2", Write.INT, 1);
        is("-7 % -2", Write.INT, -1);
        is("7 % 2L", Write.LONG, 1);
        is("7L / 2", Write.LONG, 3);
        is("(-2147483647 - 1) / -1", Write.INT, Integer.MIN_VALUE);
        is("(-2147483647 - 1) % -1", Write.INT, 0);
        is("(-2147483647 - 1) / -1L", Write.LONG, 2147483648L);
        is("(-9223372036854775807L - 1) / -1", Write.LONG, Long.MIN_VALUE);
        is("(-9223372036854775807L - 1) % -1", Write.LONG, 0);
        is("0 / 5", Write.INT, 0);
        error("1 / 0");
        error("1 % 0");
        error("1 / 0L");
        error("1L % 0");
        error("0 / 0");
        error("null / 1");
        error("1 % true");
    }

    private void prefixes() {
        is("-a", Write.INT, -7);
        is("--a", Write.INT, 7);
        is("-b", Write.LONG, -70);
        is("-0", Write.INT, 0);
        is("-(-2147483647 - 1)", Write.INT, Integer.MIN_VALUE);
        is("-(-9223372036854775807L - 1)", Write.LONG, Long.MIN_VALUE);
        yes("!!true");
        error("-true");
        error("-null");
        error("-list");
        error("!-1");
        error("-!true");
    }

    private void joiningFromTheLeft() {
        is("7 - 2 - 1", Write.INT, 4);
        is("7 - 2 + 1", Write.INT, 6);
        is("100 / 10 / 2", Write.INT, 5);
        is("100 / 10 * 2", Write.INT, 20);
        is("100 % 30 % 4", Write.INT, 2);
        is("7 * 3 % 4", Write.INT, 1);
        yes("1 == 2 == false");
        no("2 != 2 != false");
        yes("2 == 2 != false");
        yes("false & true | true");
        yes("true | true & false");
    }

    private void binding() {
        is("2 + 3 * 4", Write.INT, 14);
        is("(2 + 3) * 4", Write.INT, 20);
        is("-2 + 3", Write.INT, 1);
        is("2 * -3", Write.INT, -6);
        is("10 - 3 % 2", Write.INT, 9);
        yes("1 + 1 < 3");
        yes("1 < 2 == 3 < 4");
        yes("1 == 1 & 2 == 2");
        no("true & false | false");
        yes("!false & true");
        yes("!false == true");
        is("true | false ? 1 : 2", Write.INT, 1);
        is("-list[0]", Write.INT, -3);
        is("-list.size", Write.INT, -5);
        is("2 * list.size", Write.INT, 10);
        is("list.size - list[1]", Write.INT, 6);
        is("1 + (null ?: 5)", Write.INT, 6);
        is("(true ? 1 : 2) + 10", Write.INT, 11);
        is("true ? 1 : 2 + 10", Write.INT, 1);
        no("true ? false : true | true");
        no("false ?: true | true");
        yes("(false ?: true) | true");
    }

    private void lists() {
        is("list[0]", Write.INT, 3);
        is("list[4]", Write.INT, 5);
        is("list[4L]", Write.INT, 5);
        is("list[list[0]]", Write.INT, -1);
        error("list[5]");
        error("list[-1]");
        error("list[4294967296L]");
        error("list[4294967297L]");
        error("list[null]");
        error("list[true]");
        error("list[list]");
        error("a[0]");
        error("null[0]");
        error("list[0][0]");
        is("list.size", Write.INT, 5);
        is("list?.size", Write.INT, 5);
        is("null?.size", Write.NOTHING, 0);
        is("null?.size ?: 6", Write.INT, 6);
        error("null.size");
        error("a.size");
        error("a?.size");
        error("true?.size");
        error("list.size.size");
        is("null?.size?.size", Write.NOTHING, 0);
    }

    private void endings() {
        is("list.?[it > 0]", Write.LIST, 3);
        is("list.?[it > 0][2]", Write.INT, 5);
        is("list.?[it > 0].?[it < 5]", Write.LIST, 2);
        is("list.?[true]", Write.LIST, 5);
        is("list.^[it > 3]", Write.INT, 4);
        is("list.$[it > 3]", Write.INT, 5);
        is("list.$[it < 4 & it > 0]", Write.INT, 3);
        is("list.^[it > 9]", Write.NOTHING, 0);
        is("list.$[it > 9]", Write.NOTHING, 0);
        is("list.?[false].^[1 / 0]", Write.NOTHING, 0);
        is("list.?[false].?[1 / 0]", Write.LIST, 0);
        error("list.?[it]");
        error("list.?[null]");
        error("a.?[true]");
        error("null.?[true]");
        error("null.^[true]");
        error("list.^[true].$[true]");
        // No further than to the one that is found.
        is("list.^[it == -1 | it == 4 & null]", Write.INT, -1);
        is("list.^[it > 0 ? true : null]", Write.INT, 3);
        is("list.$[it == 5 ? true : null]", Write.INT, 5);
        error("list.$[it == 3 ? true : null]");
        error("list.^[it == 5 ? true : null]");
        error("list.?[it == 3 ? true : null]");
        error("list.?[it == 5 ? null : true]");
        // The innermost one around it, and the outer one again behind it.
        is("list.?[list.^[it < 0] == it]", Write.LIST, 2);
        is("list.?[list.?[it > 3].size == it - 1]", Write.LIST, 1);
        is("list.?[it == list.$[it > 3]]", Write.LIST, 1);
        error("list.?[true][it]");
        error("list[it]");
        is("list.?[list[0] == it]", Write.LIST, 1);
        is("list.^[list.?[it > 0].size == it]", Write.INT, 3);
    }

    private void roles() {
        yes("role(2)");
        yes("role(9)");
        yes("role(2L)");
        no("role(3)");
        no("role(-1)");
        no("role(16)");
        no("role(34)");
        no("role(4294967298L)");
        no("role(-9223372036854775807L)");
        error("role(null)");
        error("role(true)");
        error("role(list)");
        error("role(role(2))");
        yes("role(a + 2)");
        due.same("role of nobody", Write.sort(nobody, "role(2)", 0, 0), Write.TRUTH);
        due.same("role of nobody", nobody.asked(), 0);
        due.same("a wrong role of nobody", Write.sort(nobody, "role(null)", 0, 0), Write.ERROR);
        due.same("me is nobody", Write.sort(nobody, "me", 0, 0), Write.NOTHING);
    }

    private void twentyParts() {
        is(Write.repeated("-", 19) + "a", Write.INT, -7);
        is(Write.repeated("a+", 9) + "-a", Write.INT, 56);
        is(Write.repeated("a-(", 9) + "-a" + Write.repeated(")", 9), Write.INT, 14);
        yes(Write.repeated("false|", 6) + Write.repeated("!", 6) + "true");
        is("list" + Write.repeated(".?[it>a-7]", 3) + ".size", Write.INT, 3);
        is("list.^[list.^[list.^[list.^[it>9]!=1]==3]==3]", Write.INT, 3);
    }

    private void errorsGoThrough() {
        String[] around = {"# + 1", "1 + #", "# == 1", "1 == #", "# < 1", "-#", "!(#)", "# | true", "# ?: 1",
            "true & (#)", "null ?: #", "# ? 1 : 2", "true ? # : 2", "false ? 2 : #", "list[#]", "(#)[0]",
            "(#).size", "(#)?.size", "role(#)", "list.?[#]", "list.^[#]", "list.$[#]", "(#).?[true]", "(#)"};
        for (String text : around) {
            error(text.replace("#", "it / 0"));
            error(text.replace("#", "ret"));
        }
    }
}
