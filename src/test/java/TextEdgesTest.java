/** "Terms", on TEXT, TOKENS, EXPRESSION, PARTS and FAULT: a test for each sentence that names an edge. */
public final class TextEdgesTest {
    private static final String[] BASES = {"1", "1L", "true", "false", "null", "me", "a", "b", "it", "ret", "list"};
    private static final String[] BETWEEN = {"|", "&", "==", "!=", "<", "<=", ">", ">=", "+", "-", "*", "/", "%"};
    private static final String[] SQUARES = {"[", ".?[", ".^[", ".$["};
    private static final String[] OTHER_WORDS = {"c", "z", "aa", "ab", "tru", "truee", "fals", "falsee", "nul", "nulll",
        "m", "mee", "i", "itt", "re", "rett", "lis", "listt", "rol", "rolee", "siz", "sizee", "eurt", "mi", "ir", "rat",
        "liar", "lisz", "tree", "nuls", "sire", "rule", "abcdefghijklmnopqrstuvwxyz"};

    private final Due due = new Due("TextEdgesTest");

    public static void main(String[] args) {
        TextEdgesTest test = new TextEdgesTest();
        test.tokens();
        test.tokensAtTheEnds();
        test.grammar();
        test.partsAndFaults();
        test.due.finish();
    }

    private void tokens() {
        spacesArePassedOver();
        theLongestTokenIsTaken();
        digitsAndTheirL();
        largestInt();
        largestLong();
        words();
        signsWithoutSpacesWithin();
        everyCharacterAtTheBeginning();
        everyCharacterBehindAValue();
        wrongTokensStandNowhere();
    }

    private void tokensAtTheEnds() {
        tokensAtTheEndOfAFullText();
        nothingOfAnEarlierText();
    }

    private void grammar() {
        choices();
        oneOrMoreWithSignsBetween();
        whichSignBindsMore();
        joinsFromTheLeft();
        prefixes();
        anyNumberOfEndings();
        endingsHoldAnExpression();
        bases();
    }

    private void partsAndFaults() {
        whatCountsAsAPart();
        whatIsNoPart();
        theTwentyFirstPart();
        theFirstTokenOfThree();
        howeverLong();
        theTextEndsTooSoon();
    }

    private void fault(String text, int want) {
        due.same("define of '" + text + "'", Write.fault(text), want);
    }

    private void good(String text) {
        fault(text, -1);
    }

    /** With a = 7 and b = 70, nobody logged in and an empty list. */
    private void value(String text, int sort, long want) {
        MethodWarden warden = new MethodWarden();
        due.same("sort of '" + text + "'", Write.sort(warden, text, 7, 70), sort);
        due.same("value of '" + text + "'", warden.asked(), want);
    }

    private static String times(String piece, int count) {
        return Write.repeated(piece, count);
    }

    // ---- tokens

    private void spacesArePassedOver() {
        due.about("spaces are passed over");
        value(times(" ", 47) + "a", Write.INT, 7);
        value("a" + times(" ", 47), Write.INT, 7);
        value("  7  -  2  ", Write.INT, 5);
        value("- ( a ) ", Write.INT, -7);
        value(" role ( 1 ) ", Write.TRUTH, 0);
        value("list . size", Write.INT, 0);
        value("list ?. size", Write.INT, 0);
        value("list .^[ true ]", Write.NOTHING, 0);
        value("true ? 1 : 2", Write.INT, 1);
        value("7-2", Write.INT, 5);
    }

    private void theLongestTokenIsTaken() {
        due.about("then the longest token that begins there is taken");
        value("12", Write.INT, 12);
        value("12L", Write.LONG, 12);
        value("7<=7", Write.TRUTH, 1);
        value("7>=7", Write.TRUTH, 1);
        value("7==7", Write.TRUTH, 1);
        value("7!=7", Write.TRUTH, 0);
        value("null?:7", Write.INT, 7);
        value("null?.size", Write.NOTHING, 0);
        fault("truefalse", 0);
        fault("ab", 0);
        fault("a===b", 3);
        fault("a!==b", 3);
        fault("a<==b", 3);
        fault("a>==b", 3);
        fault("a?:b:a", 4);
        fault("a?.size:b", 7);
        fault("a?::b", 3);
        fault("a?.?[b]", 3);
        fault("a..?[b]", 2);
        fault("a<>b", 2);
        fault("a=<b", 1);
        // A sign that is not there as a whole is cut where the next shorter one ends.
        fault("a.?b", 2);
        fault("a.?", 2);
        fault("a.^b", 2);
        fault("a.$b", 2);
        fault("a.b[0]", 2);
        fault("a.5[0]", 2);
        fault("a..[0]", 2);
        fault("a.[[0]", 2);
        good("a?b:a");
        good("!a");
        good("a<b");
        good("a>b");
    }

    private void digitsAndTheirL() {
        due.about("as many digits as follow one another, and a letter L if one follows at once");
        for (int digit = 0; digit <= 9; digit++) {
            value("" + digit, Write.INT, digit);
            value(digit + "L", Write.LONG, digit);
            value("1" + digit, Write.INT, 10 + digit);
        }
        value(times("0", 48), Write.INT, 0);
        value(times("0", 47) + "L", Write.LONG, 0);
        value("007", Write.INT, 7);
        fault("7 L", 2);
        fault("7LL", 2);
        fault("7L7", 2);
        fault("7 7", 2);
        fault("7l", 1);
        fault("L", 0);
        fault("L7", 0);
        fault("7a", 1);
        fault("a7", 1);
        fault("aL", 1);
        fault("7.7", 2);
    }

    private void largestInt() {
        due.about("without L it is an INT and at most 2147483647");
        value("0", Write.INT, 0);
        value("2147483646", Write.INT, 2147483646);
        value("2147483647", Write.INT, 2147483647);
        value(times("0", 38) + "2147483647", Write.INT, 2147483647);
        fault("2147483648", 0);
        fault(times("0", 38) + "2147483648", 0);
        fault("-2147483648", 1);
        fault("2147483650", 0);
        fault("3000000000", 0);
        fault("4294967295", 0);
        fault("4294967296", 0);
        fault("4294967303", 0);
        fault("9223372036854775807", 0);
        fault("9223372036854775808", 0);
        fault("18446744073709551616", 0);
        fault("18446744073709551623", 0);
        fault(times("9", 48), 0);
        fault("1" + times("0", 47), 0);
    }

    private void largestLong() {
        due.about("with L a LONG and at most 9223372036854775807");
        value("0L", Write.LONG, 0);
        value("2147483647L", Write.LONG, 2147483647L);
        value("2147483648L", Write.LONG, 2147483648L);
        value("9223372036854775799L", Write.LONG, Long.MAX_VALUE - 8);
        value("9223372036854775806L", Write.LONG, Long.MAX_VALUE - 1);
        value("9223372036854775807L", Write.LONG, Long.MAX_VALUE);
        value(times("0", 28) + "9223372036854775807L", Write.LONG, Long.MAX_VALUE);
        fault("9223372036854775808L", 0);
        fault(times("0", 28) + "9223372036854775808L", 0);
        fault("-9223372036854775808L", 1);
        fault("9223372036854775809L", 0);
        fault("9223372036854775810L", 0);
        fault("9999999999999999999L", 0);
        fault("10000000000000000000L", 0);
        fault("18446744073709551615L", 0);
        fault("18446744073709551616L", 0);
        fault("18446744073709551623L", 0);
        fault("92233720368547758070L", 0);
        fault(times("9", 47) + "L", 0);
        fault("1" + times("0", 46) + "L", 0);
    }

    private void words() {
        due.about("as many small letters as follow one another; the words are true false null me a b it ret list role size");
        for (String word : BASES) {
            good(word);
        }
        good("role(a)");
        good("a.size");
        for (String word : OTHER_WORDS) {
            fault(word, 0);
            fault("a+" + word + "+a", 2);
            fault("role(" + word + ")", 5);
            fault("a." + word, 2);
        }
        fault("True", 0);
        fault("tRue", 0);
        fault("trueE", 4);
        fault("tr ue", 0);
        fault("a.si ze", 2);
        fault(times("a", 48), 0);
    }

    private void signsWithoutSpacesWithin() {
        due.about("?: ?. .?[ .^[ .$[ (these last ones without spaces within)");
        fault("a = =b", 2);
        fault("a ! =b", 2);
        fault("a < =b", 4);
        fault("a > =b", 4);
        fault("a ? :b", 4);
        fault("a ? .size", 4);
        fault("a . ?[b]", 4);
        fault("a .? [b]", 3);
        fault("a . ^[b]", 4);
        fault("a .^ [b]", 3);
        fault("a . $[b]", 4);
        fault("a .$ [b]", 3);
        for (String sign : new String[] {"==", "!=", "<=", ">=", "?:"}) {
            good("a " + sign + " b");
        }
        for (String sign : SQUARES) {
            good("a " + sign + " b ]");
        }
        good("a ?. size");
    }

    private void everyCharacterAtTheBeginning() {
        due.about("a character at which no token begins");
        for (char c = 32; c <= 126; c++) {
            int want = 0;
            if (c >= '0' && c <= '9' || c == 'a' || c == 'b') {
                want = -1;
            } else if (" (-!".indexOf(c) >= 0) {
                want = 1;
            }
            fault("" + c, want);
        }
    }

    private void everyCharacterBehindAValue() {
        due.about("are not the beginning of any expression");
        for (char c = 32; c <= 126; c++) {
            int want = 2;
            if (c == ' ') {
                want = -1;
            } else if ("|&<>+-*/%[?.".indexOf(c) >= 0) {
                want = 3;
            }
            fault("a " + c, want);
        }
    }

    private void wrongTokensStandNowhere() {
        due.about("A larger number, another word, and a character at which no token begins are WRONG tokens, "
                + "which may stand nowhere.");
        String[] wrong = {"2147483648", "9223372036854775808L", "x", "sizes", "#", "=", "L", "^", "$", "~", "\""};
        String[] before = {"", "(", "-", "! ", "a+", "a ", "(a ", "a[b ", "a?", "a?b ", "a?b:", "a?:", "role ", "role(",
            "role(a ", "a[", "a.?[", "a.^[", "a.$[", "a.", "a?.", "a.size ", "(a)", "a[b]"};
        for (String place : before) {
            for (String token : wrong) {
                fault(place + token, place.length());
                fault(place + token + " a", place.length());
            }
        }
    }

    private void tokensAtTheEndOfAFullText() {
        due.about("The characters given to type make a TEXT, which define reads as an EXPRESSION.");
        for (String base : BASES) {
            good(times(" ", 48 - base.length()) + base);
            good(base + times(" ", 48 - base.length()));
        }
        for (String cut : new String[] {"|", "&", "<", "<=", ">", ">=", "==", "!=", "+", "-", "*", "/", "%", "?", "?:", "?.",
            ".", "[", ".?[", ".^[", ".$["}) {
            fault("a" + times(" ", 47 - cut.length()) + cut, 48);
        }
        for (String cut : new String[] {".?", ".^", ".$"}) {
            fault("a" + times(" ", 45) + cut, 47);
        }
        fault("a" + times(" ", 46) + "=", 47);
        fault("a" + times(" ", 46) + "!", 47);
        fault(times(" ", 47) + "L", 47);
        fault(times(" ", 44) + "role", 48);
        good("a." + times(" ", 42) + "size");
        good("(" + times(" ", 45) + "a)");
        good("a[" + times(" ", 44) + "b]");
    }

    /** Each text is a part of the one that was read before it. */
    private void nothingOfAnEarlierText() {
        due.about("It is cut into TOKENS from left to right");
        String[][] texts = {{"a.?[b]", "a.?"}, {"a.^[b]", "a."}, {"a ?: b", "a ?"}, {"a?.size", "a?"}, {"a <= b", "a <"},
            {"a==b", "a="}, {"a!=b", "a!"}, {"12L", "12"}, {"12", "1"}, {"list", "li"}, {"role(a)", "role("},
            {"(((a)))", "(((a"}, {times("-", 19) + "a", "-"}, {times("(", 48), "a"}};
        int[] faults = {2, 2, 3, 2, 3, 1, 1, -1, -1, 0, 5, 4, 1, -1};
        for (int k = 0; k < texts.length; k++) {
            MethodWarden warden = new MethodWarden();
            Write.define(warden, 0, texts[k][0]);
            String what = "'" + texts[k][1] + "' after '" + texts[k][0] + "'";
            due.same(what, Write.define(warden, 1, texts[k][1]), faults[k]);
        }
    }

    // ---- grammar

    private void choices() {
        due.about("EXPRESSION: OR, or OR ? EXPRESSION : EXPRESSION, or OR ?: EXPRESSION.");
        value("true?1:2", Write.INT, 1);
        value("false?1:2", Write.INT, 2);
        value("false?1:false?2:3", Write.INT, 3);
        value("true?false?1:2:3", Write.INT, 2);
        value("true?null?:1:2", Write.INT, 1);
        value("null?:true?1:2", Write.INT, 1);
        value("null?:null?:1", Write.INT, 1);
        value("false?1:null?:2", Write.INT, 2);
        value("true?1:2|3", Write.INT, 1);
        value("false|true?1:2", Write.INT, 1);
        fault("?a:b", 0);
        fault("?:a", 0);
        fault("a?:", 3);
        fault("a?", 2);
        fault("a?b", 3);
        fault("a?b:", 4);
        fault("a?:b:a", 4);
        fault("a:b", 1);
        fault("a?b:a:b", 5);
        fault("a?(b:a)", 4);
        fault("(a?b):a", 4);
        fault("a?b?a:b", 7);
        // Six of them within one another have nineteen parts; seven have twenty-two.
        good(times("a?", 6) + "a" + times(":b", 6));
        fault(times("a?", 7) + "a" + times(":b", 7), 26);
        good(times("a?b:", 6) + "a");
        fault(times("a?b:", 7) + "a", 26);
        good(times("a?:", 9) + "a");
        fault(times("a?:", 10) + "a", 30);
    }

    private void oneOrMoreWithSignsBetween() {
        due.about("OR: one or more AND with | between them.");
        for (String sign : BETWEEN) {
            int length = sign.length();
            good("a" + sign + "b");
            good(times("a" + sign, 9) + "b");
            fault(times("a" + sign, 10) + "b", 10 + 10 * length);
            fault("a" + sign, 1 + length);
            fault("(a" + sign + ")", 2 + length);
            fault("a" + sign + "*b", 1 + length);
            if (!sign.equals("-")) {
                fault(sign, 0);
                fault(sign + "a", 0);
                fault("a" + sign + " " + sign + "b", 2 + length);
            }
        }
        good("a- -b");
        good("a|b&a==b<a+b*-a");
        good("-a*b+a<b==a&b|a");
    }

    private void whichSignBindsMore() {
        due.about("AND: EQUAL with & between. EQUAL: ORDER with == or != between. ORDER: SUM with < <= > >= between. "
                + "SUM: TERM with + or - between. TERM: PREFIX with * / or % between.");
        value("true | false & false", Write.TRUTH, 1);
        value("false & false | true", Write.TRUTH, 1);
        value("false & true == false", Write.TRUTH, 0);
        value("false == true & false", Write.TRUTH, 0);
        value("true & true != true", Write.TRUTH, 0);
        for (String order : new String[] {"<", "<="}) {
            value("1 " + order + " 2 == true", Write.TRUTH, 1);
            value("false != 1 " + order + " 2", Write.TRUTH, 1);
            value("2 > 1 == 1 " + order + " 2", Write.TRUTH, 1);
            value("2 >= 1 != 2 " + order + " 1", Write.TRUTH, 1);
            value("1 + 1 " + order + " 3 - 0", Write.TRUTH, 1);
            value("3 - 2 > 0 + 0", Write.TRUTH, 1);
        }
        value("2 + 3 * 4", Write.INT, 14);
        value("2 * 3 + 4", Write.INT, 10);
        value("9 - 8 / 4", Write.INT, 7);
        value("8 / 4 - 9", Write.INT, -7);
        value("9 - 8 % 3", Write.INT, 7);
        value("8 % 3 - 9", Write.INT, -7);
        value("-2 * -3", Write.INT, 6);
        value("-8 % 3", Write.INT, -2);
        value("-7 / 2", Write.INT, -3);
    }

    private void joinsFromTheLeft() {
        due.about("What stands between joins from the left: 7 - 2 - 1 is (7 - 2) - 1.");
        value("7 - 2 - 1", Write.INT, 4);
        value("(7 - 2) - 1", Write.INT, 4);
        value("7 - (2 - 1)", Write.INT, 6);
        value("7 - 2 + 1", Write.INT, 6);
        value("8 / 4 / 2", Write.INT, 1);
        value("8 / 4 * 2", Write.INT, 4);
        value("8 % 5 % 2", Write.INT, 1);
        value("8 % 5 * 2", Write.INT, 6);
        value("2147483647 + 1 + 1L", Write.LONG, -2147483647L);
        value("1 == 2 == false", Write.TRUTH, 1);
        value("1 != 2 != true", Write.TRUTH, 0);
        value("1 < 2 == true", Write.TRUTH, 1);
        value("true == 1 < 2", Write.TRUTH, 1);
        value("1 < 2 < 3", Write.ERROR, 0);
        value("false & it | true", Write.TRUTH, 1);
        value("true | it & false", Write.TRUTH, 1);
        value("1 - 2 - 3 - 4 - 5 - 6 - 7 - 8 - 9 - 10", Write.INT, -53);
    }

    private void prefixes() {
        due.about("PREFIX: - PREFIX, or ! PREFIX, or POSTFIX.");
        value("-7", Write.INT, -7);
        value("- -7", Write.INT, 7);
        value("--7", Write.INT, 7);
        value(times("-", 18) + "a", Write.INT, 7);
        value(times("-", 19) + "a", Write.INT, -7);
        value(times("!", 18) + "true", Write.TRUTH, 1);
        value(times("!", 19) + "true", Write.TRUTH, 0);
        value("-2+3", Write.INT, 1);
        value("-2*-3", Write.INT, 6);
        value("7--2", Write.INT, 9);
        value("!true|true", Write.TRUTH, 1);
        value("!false==true", Write.TRUTH, 1);
        value("-list.size", Write.INT, 0);
        fault("-", 1);
        fault("!", 1);
        fault("a-", 2);
        fault("a!b", 1);
        fault("a!", 1);
        fault("-)", 1);
        fault("-+a", 1);
    }

    private void anyNumberOfEndings() {
        due.about("POSTFIX: a BASE and any number of ENDINGS behind it, each for all that stands before it");
        for (String base : new String[] {"1", "1L", "true", "null", "me", "b", "ret", "list", "(a)", "role(a)"}) {
            good(base);
            good(base + "[a]");
            good(base + "[a].size?.size.?[a].^[a].$[a]");
        }
        good("a" + times("[0]", 9));
        fault("a" + times("[0]", 10), 29);
        good("a" + times(".size", 9));
        good("a" + times("?.size", 7));
        value("list.?[true].size", Write.INT, 0);
        value("list?.size.size", Write.ERROR, 0);
        value("null?.size?.size", Write.NOTHING, 0);
        value("-(list.size)", Write.INT, 0);
        fault("a+[0]", 2);
        fault("[0]", 0);
        fault(".size", 0);
        fault("?.size", 0);
        fault(".?[a]", 0);
        fault("-.size", 1);
    }

    private void endingsHoldAnExpression() {
        due.about("[ EXPRESSION ] or .?[ EXPRESSION ] or .^[ EXPRESSION ] or .$[ EXPRESSION ] or . size or ?. size");
        for (String sign : SQUARES) {
            int length = sign.length();
            good("a" + sign + "b]");
            good("a" + sign + "a?b:a]");
            good("a" + sign + "a?:b]");
            good("a" + sign + "(b)]");
            fault("a" + sign + "]", 1 + length);
            fault("a" + sign, 1 + length);
            fault("a" + sign + "b", 2 + length);
            fault("a" + sign + "b)", 2 + length);
            fault("a" + sign + "b]]", 3 + length);
            fault("a" + sign + "b a]", 3 + length);
            fault("(a" + sign + "b)]", 3 + length);
        }
        for (String dot : new String[] {".", "?."}) {
            int length = dot.length();
            good("a" + dot + "size");
            fault("a" + dot, 1 + length);
            fault("a" + dot + "(size)", 1 + length);
            fault("a" + dot + "[b]", 1 + length);
            fault("a" + dot + "list", 1 + length);
            fault("a" + dot + "1", 1 + length);
            fault("a" + dot + ".size", 1 + length);
            fault("a" + dot + "size size", 6 + length);
            fault("a" + dot + "size(a)", 5 + length);
        }
        fault("size", 0);
        fault("a size", 2);
        fault("a+size", 2);
    }

    private void bases() {
        due.about("BASE: NUMBER, true, false, null, me, a, b, it, ret, list, ( EXPRESSION ), role ( EXPRESSION ).");
        for (String base : BASES) {
            good(base);
            good("(" + base + ")");
            good("role(" + base + ")");
            fault(base + " a", base.length() + 1);
            fault(base + "(a)", base.length());
        }
        fault("()", 1);
        fault("(", 1);
        fault(")", 0);
        fault("(a", 2);
        fault("a)", 1);
        fault("(a]", 2);
        fault("(a))", 3);
        fault("(a)(b)", 3);
        fault("role", 4);
        fault("role a", 5);
        fault("role[a]", 4);
        fault("role()", 5);
        fault("role(", 5);
        fault("role(a", 6);
        fault("role(a]", 6);
        fault("role(a))", 7);
        fault("role role(a)", 5);
        good(times("(", 23) + "a" + times(")", 23));
        fault(times("(", 24) + "a" + times(")", 23), 48);
        fault(times("(", 23) + "a" + times(")", 24), 47);
        good(times("role(", 7) + "a" + times(")", 7));
        good(times("a[", 9) + "a" + times("]", 9));
        fault(times("a[", 10) + "a" + times("]", 10), 20);
    }

    // ---- parts and faults

    /** A text that has this many parts, the last of them at this place; it fits once and then no more. */
    private void counts(String text, int parts, int last) {
        String most = times("-", 20 - parts);
        good(most + text);
        fault("-" + most + text, 1 + most.length() + last);
    }

    private void whatCountsAsAPart() {
        due.about("PARTS are all tokens but ( ) ] : . and ?. ; an expression has at most twenty.");
        for (String base : BASES) {
            counts(base, 1, 0);
        }
        for (String sign : BETWEEN) {
            counts("a" + sign + "b", 3, 1 + sign.length());
        }
        for (String sign : SQUARES) {
            counts("a" + sign + "b]", 3, 1 + sign.length());
        }
        counts("-a", 2, 1);
        counts("!a", 2, 1);
        counts("role(a)", 2, 5);
        counts("a.size", 2, 2);
        counts("a?.size", 2, 3);
        counts("a?b:a", 4, 4);
        counts("a?:b", 3, 3);
        counts("(a)", 1, 1);
        counts("((((a))))", 1, 4);
    }

    private void whatIsNoPart() {
        due.about("all tokens but ( ) ] : . and ?.");
        String twenty = times("-", 19) + "a";
        good("(" + twenty + ")");
        good(times("(", 14) + twenty + times(")", 14));
        good(times("-", 17) + "a[b]");
        good(times("-", 18) + "role(a)");
        // These stand behind the twentieth part, and the text ends too soon behind them.
        fault(times("-", 20) + "(", 21);
        fault(twenty + ".", 21);
        fault(twenty + "?.", 22);
        fault(times("-", 17) + "a?b:", 21);
        fault(times("-", 19) + "role(", 24);
        // Then the next part is the twenty-first.
        fault(times("-", 20) + "(a", 21);
        fault(twenty + ".size", 21);
        fault(twenty + "?.size", 22);
        fault(times("-", 17) + "a?b:a", 21);
        fault(times("-", 19) + "role(a)", 24);
    }

    private void theTwentyFirstPart() {
        due.about("or is the twenty-first part");
        String twenty = times("-", 19) + "a";
        good(twenty);
        for (String sign : BETWEEN) {
            fault(twenty + sign + "b", 20);
            fault(twenty + " " + sign, 21);
        }
        for (String sign : SQUARES) {
            fault(twenty + sign + "b]", 20);
        }
        fault(twenty + "?b:a", 20);
        fault(twenty + "?:b", 20);
        for (String base : BASES) {
            fault(times("-", 20) + base, 20);
            fault(times("!", 20) + " " + base, 21);
        }
        fault(times("-", 20) + "role(a)", 20);
        fault(times("-", 21), 20);
        fault(times("-", 48), 20);
        fault(times("!", 21), 20);
        fault(times("a+", 24), 20);
    }

    private void theFirstTokenOfThree() {
        due.about("the place (from 0) of the first character of its first token that is WRONG, "
                + "or is the twenty-first part, or with which");
        fault("#", 0);
        fault(" #", 1);
        fault(times(" ", 47) + "#", 47);
        fault(times(" ", 47) + ")", 47);
        fault("a  2147483648", 3);
        fault("a+  xyz", 4);
        fault("a  ==  !=", 7);
        fault(") #", 0);
        fault("# )", 0);
        fault("a b #", 2);
        // One token may be at fault for more than one reason, and those behind it don't count.
        fault(times("-", 20) + "a #", 20);
        fault(times("-", 20) + "# a", 20);
        fault(times("-", 19) + "# a", 19);
        fault(times("-", 19) + ")" + times("-", 5), 19);
        fault(times("-", 20) + "size", 20);
        fault(times("-", 19) + "a a", 21);
        fault(times("-", 19) + "a )", 21);
        fault(times("-", 19) + "a #", 21);
        fault(times("-", 20) + ")", 20);
        fault(times("-", 20) + "]", 20);
        fault(times("-", 20) + ":", 20);
    }

    private void howeverLong() {
        due.about("the tokens from the first one up to it are not the beginning of any "
                + "expression, however long");
        // What would go on beyond twenty parts or forty-eight characters is still a beginning.
        fault(times("(", 48), 48);
        fault(times("-", 20), 20);
        fault(times("-", 20) + times("(", 28), 48);
        fault(times("a?", 10), 20);
        fault(times("a[", 10), 20);
        fault(times("a.?[", 10), 40);
        fault(times("role(", 9), 45);
        fault("a+" + times("(", 46), 48);
        // And what no longer one would mend is a fault at once.
        fault("a?b]" + times(" ", 44), 3);
        fault("(a?b)" + times("(", 43), 4);
        fault("a[b)" + times("(", 44), 3);
        fault("a.?[b:" + times("(", 42), 5);
        fault("role(a?b:a:" + times("(", 37), 10);
    }

    private void theTextEndsTooSoon() {
        due.about("when there is no such token, it is the number of the text's characters");
        fault("", 0);
        fault(" ", 1);
        fault(times(" ", 48), 48);
        fault("-", 1);
        fault("- ", 2);
        fault("(a", 2);
        fault("(a ", 3);
        fault("a+" + times(" ", 46), 48);
        fault(times(" ", 47) + "(", 48);
        fault("role ", 5);
        fault("a. ", 3);
        fault("a?. ", 4);
        fault("a?b ", 4);
        fault("a[b", 3);
        fault("a[", 2);
        fault("a?:", 3);
    }
}
