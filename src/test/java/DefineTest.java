/** Promise 3: define, and from the terms TEXT, TOKENS, EXPRESSION, PARTS and FAULT. */
public final class DefineTest {
    public static void main(String[] args) {
        Due due = new Due("DefineTest");
        refusesOtherSlots(due);
        emptiesTheTextInAnyCase(due);
        aFaultLeavesTheSlotAsItIs(due);
        guardsAndRulesSeeTheNewExpression(due);
        numbers(due);
        words(due);
        signs(due);
        shapes(due);
        faultsWhereTheTextStops(due);
        faultsAtATokenThatCannotStandThere(due);
        parts(due);
        brackets(due);
        earlierTextsLeaveNothingBehind(due);
        due.finish();
    }

    private static void refusesOtherSlots(Due due) {
        MethodWarden warden = new MethodWarden();
        warden.type('a');
        due.same("slot -1", warden.define(-1), -2);
        due.same("slot 8", warden.define(8), -2);
        due.same("the least slot there is", warden.define(Integer.MIN_VALUE), -2);
        due.same("the largest slot there is", warden.define(Integer.MAX_VALUE), -2);
        due.same("the text is still there", warden.define(7), -1);
        due.same("and became the expression", warden.ask(7, 5, 0), Write.INT);
    }

    private static void emptiesTheTextInAnyCase(Due due) {
        MethodWarden warden = new MethodWarden();
        due.same("a good text", Write.define(warden, 0, "a"), -1);
        due.same("then nothing is left", warden.define(0), 0);
        due.same("a text with a fault", Write.define(warden, 0, "a a"), 2);
        due.same("then nothing is left", warden.define(0), 0);
        due.same("a good text after a longer one with a fault", Write.define(warden, 0, "1"), -1);
    }

    private static void aFaultLeavesTheSlotAsItIs(Due due) {
        MethodWarden warden = new MethodWarden();
        Write.define(warden, 2, "1 + 2 * 3");
        due.same("a text with a fault", Write.define(warden, 2, "9 + 9 + )"), 8);
        warden.ask(2, 0, 0);
        due.same("the slot's expression", warden.asked(), 7);
        due.same("a fault gives a free slot nothing", Write.define(warden, 3, "9 9"), 2);
        due.same("so it can't be asked", warden.ask(3, 0, 0), -2);
        Write.define(warden, 2, "8");
        warden.ask(2, 0, 0);
        due.same("the slot's new expression", warden.asked(), 8);
        Write.define(warden, 4, "7");
        warden.ask(2, 0, 0);
        due.same("other slots stay as they are", warden.asked(), 8);
    }

    private static void guardsAndRulesSeeTheNewExpression(Due due) {
        MethodWarden warden = new MethodWarden();
        warden.login(1, 0);
        warden.add(5);
        warden.target(0, 2, 0, 0);
        for (int slot = 0; slot < 4; slot++) {
            Write.define(warden, slot, "true");
        }
        warden.guard(0, 4, 0);
        warden.rules(0, 1, 2, 3);
        due.same("all true", warden.call(0, 0, 0), 0);
        due.same("all true", warden.number(), 1);
        Write.define(warden, 0, "false");
        due.same("the guard's expression is another", warden.call(0, 0, 0), 2);
        Write.define(warden, 0, "true");
        Write.define(warden, 2, "false");
        due.same("the check's expression is another", warden.call(0, 0, 0), 4);
        Write.define(warden, 2, "true");
        Write.define(warden, 3, "false");
        warden.call(0, 0, 0);
        due.same("the filter out's expression is another", warden.number(), 0);
        Write.define(warden, 3, "true");
        Write.define(warden, 1, "false");
        warden.call(0, 0, 0);
        due.same("the filter in's expression is another", warden.number(), 0);
        Write.define(warden, 1, "null");
        due.same("the filter in's expression is no TRUTH", warden.call(0, 0, 0), 2);
    }

    private static void fault(Due due, String text, int want) {
        due.same("define of '" + text + "'", Write.fault(text), want);
    }

    private static void good(Due due, String text) {
        fault(due, text, -1);
    }

    private static void value(Due due, String text, int sort, long want) {
        MethodWarden warden = new MethodWarden();
        due.same("sort of '" + text + "'", Write.sort(warden, text, 0, 0), sort);
        due.same("value of '" + text + "'", warden.asked(), want);
    }

    private static void numbers(Due due) {
        value(due, "0", Write.INT, 0);
        value(due, "2147483647", Write.INT, 2147483647);
        value(due, "00000000000000000000000002147483647", Write.INT, 2147483647);
        value(due, "2147483648L", Write.LONG, 2147483648L);
        value(due, "0L", Write.LONG, 0);
        value(due, "9223372036854775807L", Write.LONG, Long.MAX_VALUE);
        value(due, "000000000000000000000009223372036854775807L", Write.LONG, Long.MAX_VALUE);
        fault(due, "2147483648", 0);
        fault(due, "-2147483648", 1);
        fault(due, "4294967296", 0);
        fault(due, "9223372036854775807", 0);
        fault(due, "9223372036854775808L", 0);
        fault(due, "9223372036854775810L", 0);
        fault(due, "18446744073709551616L", 0);
        fault(due, "18446744073709551617", 0);
        fault(due, "99999999999999999999999999999999999999999999999L", 0);
        fault(due, "999999999999999999999999999999999999999999999999", 0);
        fault(due, "a + 2147483648 + )", 4);
        fault(due, "5 L", 2);
        fault(due, "5LL", 2);
        fault(due, "5l", 1);
        fault(due, "1 2", 2);
        fault(due, "1L2", 2);
        fault(due, "1a", 1);
        fault(due, "a1", 1);
    }

    private static void words(Due due) {
        for (String word : new String[] {"true", "false", "null", "me", "a", "b", "it", "ret", "list"}) {
            good(due, word);
            fault(due, word + "x", 0);
            fault(due, "x" + word, 0);
            fault(due, "1 + " + word + word, 4);
        }
        good(due, "role(a)");
        fault(due, "role", 4);
        fault(due, "role ", 5);
        fault(due, "size", 0);
        fault(due, "list.size", -1);
        fault(due, "list.sizes", 5);
        fault(due, "list.siz", 5);
        fault(due, "c", 0);
        fault(due, "ab", 0);
        fault(due, "A", 0);
        fault(due, "True", 0);
        fault(due, "tRue", 0);
        fault(due, "a & Null", 4);
        fault(due, "tru", 0);
        fault(due, "true false", 5);
        fault(due, "retu", 0);
    }

    private static void signs(Due due) {
        for (String sign : new String[] {"|", "&", "==", "!=", "<", "<=", ">", ">=", "+", "-", "*", "/", "%", "?:"}) {
            good(due, "a" + sign + "b");
            good(due, "a " + sign + " b");
            fault(due, "a" + sign, 1 + sign.length());
        }
        good(due, "a?b:a");
        good(due, "!a");
        good(due, "!!a");
        good(due, "-a");
        good(due, "a--a");
        good(due, "a!=!a");
        good(due, "list?.size");
        good(due, "list ?. size");
        good(due, "list . size");
        good(due, "list.?[true]");
        good(due, "list .^[ true ]");
        good(due, "list.$[true]");
        fault(due, "a = b", 2);
        fault(due, "a === b", 4);
        fault(due, "a = = b", 2);
        fault(due, "a ! = b", 2);
        fault(due, "a !== b", 4);
        fault(due, "a < = b", 4);
        fault(due, "a > = b", 4);
        fault(due, "a || b", 3);
        fault(due, "a && b", 3);
        fault(due, "a ? : b", 4);
        fault(due, "list ? .size", 7);
        fault(due, "list. ?[true]", 6);
        fault(due, "list.? [true]", 5);
        fault(due, "list.^ [true]", 5);
        fault(due, "list.?", 5);
        fault(due, "list.$", 5);
        fault(due, "list.", 5);
        fault(due, "list.[true]", 5);
        fault(due, "list?.?[true]", 6);
        fault(due, "list?[true]", 5);
        for (String other : new String[] {"#", "@", "'", "\"", ",", ";", "\\", "^", "_", "`", "{", "}", "~", "$", "="}) {
            fault(due, other, 0);
            fault(due, "a " + other, 2);
        }
    }

    private static void shapes(Due due) {
        good(due, "a ? b : a ? b : a");
        good(due, "a ? a ? b : a : b");
        good(due, "a ?: b ?: a");
        good(due, "a ?: b ? a : b");
        good(due, "a ? b : a ?: b");
        good(due, "a ? b ?: a : b");
        good(due, "a | b & a == b < a + b * -a");
        good(due, "-a * b + a < b == a & b | a");
        good(due, "(a ? b : a) + 1");
        good(due, "list[0][1][2].size.size");
        good(due, "(a)[b]");
        good(due, "role(a)[b].size");
        good(due, "5[true]");
        good(due, "-list[a ? b : a]");
        good(due, "list.?[a ?: b]");
        good(due, "role(a ? b : a)");
        good(due, "a < b < a");
        good(due, "a == b != a");
        good(due, "  a  ");
    }

    private static void faultsWhereTheTextStops(Due due) {
        fault(due, "", 0);
        fault(due, " ", 1);
        fault(due, "a +", 3);
        fault(due, "a +  ", 5);
        fault(due, "-", 1);
        fault(due, "!", 1);
        fault(due, "(", 1);
        fault(due, "(a", 2);
        fault(due, "role(", 5);
        fault(due, "role(a", 6);
        fault(due, "list[", 5);
        fault(due, "list[a", 6);
        fault(due, "list.?[true", 11);
        fault(due, "list ?.", 7);
        fault(due, "a ?", 3);
        fault(due, "a ? b", 5);
        fault(due, "a ? b :", 7);
        fault(due, "a ? b ? a : b", 13);
        fault(due, "a ?:", 4);
    }

    private static void faultsAtATokenThatCannotStandThere(Due due) {
        fault(due, ")", 0);
        fault(due, "]", 0);
        fault(due, ":", 0);
        fault(due, "?", 0);
        fault(due, ".size", 0);
        fault(due, "*a", 0);
        fault(due, "a)", 1);
        fault(due, "a]", 1);
        fault(due, "a :", 2);
        fault(due, "(a]", 2);
        fault(due, "list[a)", 6);
        fault(due, "(a : b)", 3);
        fault(due, "a ? (b : a)", 7);
        fault(due, "(a ? b)", 6);
        fault(due, "list[a ? b]", 10);
        fault(due, "role(a ? b)", 10);
        fault(due, "a ?: b : a", 7);
        fault(due, "a ? b : a : b", 10);
        fault(due, "a ? b ?: a : b : a", 15);
        fault(due, "()", 1);
        fault(due, "list[]", 5);
        fault(due, "role()", 5);
        fault(due, "role a", 5);
        fault(due, "role[a]", 4);
        fault(due, "a role(a)", 2);
        fault(due, "a (b)", 2);
        fault(due, "a ! b", 2);
        fault(due, "a b", 2);
        fault(due, "list.list", 5);
        fault(due, "list.(size)", 5);
        fault(due, "list.size(a)", 9);
        fault(due, "(a).b", 4);
    }

    private static void parts(Due due) {
        good(due, Write.repeated("-", 19) + "a");
        fault(due, Write.repeated("-", 20) + "a", 20);
        fault(due, Write.repeated("-", 20), 20);
        fault(due, Write.repeated("-", 21), 20);
        fault(due, Write.repeated("!", 20) + ")", 20);
        // Twenty parts, and behind them only what counts for none.
        good(due, "(" + Write.repeated("-", 19) + "a)");
        good(due, Write.repeated("a+", 9) + "-a");
        fault(due, Write.repeated("a+", 10) + "a", 20);
        fault(due, Write.repeated("a+", 10), 20);
        fault(due, Write.repeated("a+", 10) + "(((a", 23);
        good(due, "-list" + Write.repeated("[0]", 9));
        fault(due, "-list" + Write.repeated("[0]", 9) + "[", 32);
        good(due, Write.repeated("-", 18) + "list.size");
        fault(due, Write.repeated("-", 19) + "list.size", 24);
        good(due, Write.repeated("-", 17) + "(list?.size)");
        good(due, Write.repeated("-", 18) + "role(a)");
        fault(due, Write.repeated("-", 19) + "role(a)", 24);
        good(due, Write.repeated("-", 16) + "a?b:a");
        fault(due, Write.repeated("-", 17) + "a?b:a", 21);
        good(due, Write.repeated("-", 17) + "a?:b");
        fault(due, Write.repeated("-", 18) + "a?:b", 21);
        good(due, Write.repeated("-", 17) + "a.?[b]");
        fault(due, Write.repeated("-", 18) + "a.^[b]", 22);
        fault(due, Write.repeated("-", 19) + "a.$[b]", 20);
        // The token after the twenty-first part does not count any more.
        fault(due, Write.repeated("-", 20) + "a # ", 20);
        fault(due, Write.repeated("-", 19) + "# a", 19);
    }

    private static void brackets(Due due) {
        good(due, Write.repeated("(", 23) + "a" + Write.repeated(")", 23));
        good(due, Write.repeated("(", 23) + "me" + Write.repeated(")", 23));
        // As many tokens as a text can have.
        good(due, "-" + Write.repeated("(", 23) + "a" + Write.repeated(")", 23));
        fault(due, Write.repeated("(", 48), 48);
        fault(due, Write.repeated("(", 24) + "a" + Write.repeated(")", 23), 48);
        fault(due, Write.repeated("(", 23) + "a" + Write.repeated(")", 24), 47);
        good(due, Write.repeated("list[", 7) + "1" + Write.repeated("]", 7));
        good(due, Write.repeated("role(", 7) + "1" + Write.repeated(")", 7));
    }

    private static void earlierTextsLeaveNothingBehind(Due due) {
        MethodWarden warden = new MethodWarden();
        due.same("a text with an ending", Write.define(warden, 0, "list.?[true]"), -1);
        due.same("the ending's bracket is gone", Write.define(warden, 0, "list.?"), 5);
        due.same("so is its sign", Write.define(warden, 0, "list."), 5);
        due.same("an L is gone too", Write.define(warden, 1, "1L"), -1);
        due.same("an L is gone too", Write.define(warden, 1, "1"), -1);
        due.same("an L is gone too", warden.ask(1, 0, 0), Write.INT);
        for (int k = 0; k < 25; k++) {
            due.same("good, time " + k, Write.define(warden, 0, "1+2"), -1);
            due.same("with a fault, time " + k, Write.define(warden, 1, "(1*(a a"), 6);
        }
        due.same("and good again", Write.define(warden, 0, "1+2*3-4"), -1);
        warden.ask(0, 0, 0);
        due.same("its value", warden.asked(), 3);
    }
}
