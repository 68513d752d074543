import java.util.Arrays;

/** "Terms", on VALUES: a test for each sentence that names an edge. */
public final class ValueEdgesTest {
    /** One of each kind of value, both TRUTHs; "it" is ERROR wherever nothing is looked at. */
    private static final String[] SAMPLES = {"null", "true", "false", "2", "3L", "list", "it"};
    private static final int[] SORTS = {Write.NOTHING, Write.TRUTH, Write.TRUTH, Write.INT, Write.LONG, Write.LIST,
        Write.ERROR};
    private static final int[] WORTHS = {0, 1, 0, 2, 3, 5, 0};

    private static final int[] INTS = {Integer.MIN_VALUE, Integer.MIN_VALUE + 1, -65536, -2, -1, 0, 1, 2, 46341, 65536,
        Integer.MAX_VALUE - 1, Integer.MAX_VALUE};
    private static final long[] LONGS = {Long.MIN_VALUE, Long.MIN_VALUE + 1, -4294967296L, Integer.MIN_VALUE - 1L,
        Integer.MIN_VALUE, -1, 0, 1, 2, Integer.MAX_VALUE, Integer.MAX_VALUE + 1L, 4294967295L, 4294967296L,
        4294967297L, 3037000500L, Long.MAX_VALUE - 1, Long.MAX_VALUE};
    private static final String[] ARITHMETIC = {"+", "-", "*", "/", "%"};
    private static final String[] COMPARING = {"<", "<=", ">", ">=", "==", "!="};
    private static final int[] FULL = {3, -1, 4, -1, 5};

    private final Due due = new Due("ValueEdgesTest");

    public static void main(String[] args) {
        ValueEdgesTest test = new ValueEdgesTest();
        test.names();
        test.logic();
        test.sameness();
        test.numbers();
        test.places();
        test.searches();
        test.due.finish();
    }

    private void names() {
        meOfNobody();
        argumentsAtTheirEnds();
        theListAtItsEnds();
        itOfTheInnermost();
        itWhenThereIsNone();
        retWhereItIsNotKnown();
        onlyWhatIsNeeded();
        oneErrorIsEnough();
    }

    private void logic() {
        or();
        and();
        choice();
        ifNothing();
        not();
    }

    private void sameness() {
        pairsOfKinds();
        sameNumbers();
        sameLists();
        theOpposite();
    }

    private void numbers() {
        orderOfNumbersAlone();
        orderAtTheEnds();
        reckoningOfNumbersAlone();
        anIntWhenBothAreInts();
        wrapsAsJavaDoes();
        byNought();
        towardsNought();
        negative();
    }

    private void places() {
        itemsAtPlaces();
        itemsOfListsAlone();
        sizes();
        sizesOfNothing();
    }

    private void searches() {
        itemsThatAreTrue();
        theFirstAndTheLast();
        noneFound();
        ofListsAlone();
        noFurtherThanFound();
        noTruthForOneLookedAt();
        roleOfNumbersAlone();
        roleAtTheEnds();
        roleOfNobody();
    }

    // ---- how to ask

    private static MethodWarden with(int... items) {
        MethodWarden warden = new MethodWarden();
        for (int item : items) {
            warden.add(item);
        }
        return warden;
    }

    private void asks(MethodWarden warden, String text, int a, long b, int sort, long worth) {
        String what = "'" + text + "' with a = " + a + " and b = " + b;
        due.same("sort of " + what, Write.sort(warden, text, a, b), sort);
        due.same("value of " + what, warden.asked(), worth);
    }

    private void is(String text, int sort, long worth) {
        asks(with(FULL), text, 7, 70, sort, worth);
    }

    private void truth(String text, boolean worth) {
        is(text, Write.TRUTH, worth ? 1 : 0);
    }

    private void error(String text) {
        is(text, Write.ERROR, 0);
    }

    private static boolean isNumber(int sample) {
        return SORTS[sample] == Write.INT || SORTS[sample] == Write.LONG;
    }

    private static boolean isTruth(int sample) {
        return SORTS[sample] == Write.TRUTH;
    }

    // ---- names

    private void meOfNobody() {
        due.about("me is the user's number, an INT, NOTHING when nobody is logged in");
        MethodWarden warden = new MethodWarden();
        asks(warden, "me", 0, 0, Write.NOTHING, 0);
        for (int user : new int[] {0, 1, 998, 999}) {
            warden.login(user, 0);
            asks(warden, "me", 0, 0, Write.INT, user);
        }
        warden.login(-1, 0);
        asks(warden, "me", 0, 0, Write.NOTHING, 0);
        asks(warden, "me == null", 0, 0, Write.TRUTH, 1);
    }

    private void argumentsAtTheirEnds() {
        due.about("a, an INT, and b, a LONG, are the call's arguments");
        for (int a : INTS) {
            asks(with(), "a", a, 5, Write.INT, a);
        }
        for (long b : LONGS) {
            asks(with(), "b", 5, b, Write.LONG, b);
        }
    }

    private void theListAtItsEnds() {
        due.about("list is the list");
        MethodWarden warden = with();
        for (int size = 0; size <= 5; size++) {
            asks(warden, "list", 0, 0, Write.LIST, size);
            warden.add(size);
        }
        asks(warden, "list", 0, 0, Write.LIST, 5);
    }

    private void itOfTheInnermost() {
        due.about("it is, an INT, the item that the innermost filter or ending .?[ .^[ .$[ around it is looking at");
        is("list.^[true] + 0", Write.INT, 3);
        is("list.^[it == 4]", Write.INT, 4);
        // The outer one looks at 4 when the inner one finds 5.
        is("list.^[list.$[it > 3] == it + 1]", Write.INT, 4);
        is("list.^[it + 1 == list.$[it > 3]]", Write.INT, 4);
        is("list.?[it > list.^[it < 0]]", Write.LIST, 3);
        is("list.^[list.?[it > 3].size + 2 == it]", Write.INT, 4);
        // What an ending stands behind is not within it.
        is("list.^[list.?[it > 3][0] == it].size", Write.ERROR, 0);
        is("list.^[list.?[it > 3][0] == it]", Write.INT, 4);
        MethodWarden warden = with(FULL);
        warden.login(1, 0);
        warden.target(0, 2, 0, 0);
        Write.define(warden, 0, "list.$[it > 3] == it + 1");
        warden.rules(0, 0, -1, -1);
        warden.call(0, 0, 0);
        due.same("items for which a filter within which there is an ending is true", warden.number(), 1);
        due.same("that item", warden.itemAt(0), 4);
    }

    private void itWhenThereIsNone() {
        due.about("ERROR when there is none");
        error("it");
        error("it == it");
        error("list.?[true][it]");
        error("list[it]");
        error("list.?[it > 0].size + it");
        error("it + list.^[true]");
        error("list.^[true] == it");
        MethodWarden warden = with(FULL);
        warden.login(1, 0);
        Write.define(warden, 0, "it == it");
        warden.guard(0, 4, 0);
        due.same("in a guard", warden.call(0, 0, 0), 2);
        warden.rules(1, -1, 0, -1);
        due.same("in a check", warden.call(1, 0, 0), 4);
    }

    private void retWhereItIsNotKnown() {
        due.about("ret is what came back (NOTHING, an INT or a LIST), ERROR where it is not said below to be known.");
        error("ret");
        error("ret == null");
        error("ret ?: 1");
        error("ret?.size");
        MethodWarden warden = with(FULL);
        warden.login(1, 0);
        Write.define(warden, 0, "ret == ret");
        warden.rules(0, 0, -1, -1);
        due.same("in a filter in", warden.call(0, 0, 0), 2);
        warden.guard(1, 4, 0);
        due.same("in a guard", warden.call(1, 0, 0), 2);
        warden.rules(2, -1, 0, -1);
        due.same("in a check, NOTHING", warden.call(2, 0, 0), 0);
        warden.target(2, 1, 0, 0);
        due.same("in a check, an INT", warden.call(2, 0, 0), 0);
        warden.target(2, 2, 0, 0);
        due.same("in a check, a LIST", warden.call(2, 0, 0), 0);
        warden.target(3, 2, 0, 0);
        warden.rules(3, -1, -1, 0);
        due.same("in a filter out", warden.call(3, 0, 0), 0);
        due.same("for each item", warden.number(), 5);
        asks(warden, "ret", 0, 0, Write.ERROR, 0);
        warden.call(3, 0, 0);
        due.same("in a filter in after a call that gave a LIST back", warden.call(0, 0, 0), 2);
        warden.target(4, 5, 1, 0);
        warden.rules(4, -1, 0, -1);
        due.same("in the guard of a call within another", warden.call(4, 0, 0), 2);
    }

    private void onlyWhatIsNeeded() {
        due.about("Parts of an expression are worked out from the left, only those that are needed");
        truth("true | it", true);
        truth("false & it", false);
        is("true ? 1 : it", Write.INT, 1);
        is("false ? it : 2", Write.INT, 2);
        is("1 ?: it", Write.INT, 1);
        truth("true | it | it", true);
        truth("false & it & it", false);
        truth("true | (it & it)", true);
        is("list.?[false].?[1 / 0]", Write.LIST, 0);
        error("it | true");
        error("it & false");
        error("it ? 1 : 2");
        error("it ?: 1");
    }

    private void oneErrorIsEnough() {
        due.about("wherever one that is needed is ERROR, the whole is ERROR");
        String[] around = {"# + 1", "1 + #", "1 * #", "# == 1", "1 == #", "null == #", "null != #", "list != #", "# < 1",
            "1 < #", "-#", "!#", "# | true", "false | #", "# & false", "true & #", "# ?: 1", "null ?: #", "# ? 1 : 2",
            "true ? # : 2", "false ? 2 : #", "list[#]", "#[0]", "#.size", "#?.size", "role(#)", "list.?[#]", "list.^[#]",
            "list.$[#]", "#.?[true]", "#.^[true]", "#.$[true]", "(#)", "((#) + 1) ?: 2", "(true | #) == #"};
        for (String text : around) {
            error(text.replace("#", "ret"));
            error(text.replace("#", "(1/0)"));
        }
    }

    // ---- logic

    private void or() {
        due.about("x | y: ERROR when x is no TRUTH; true when x is true (y is not needed); else y, "
                + "ERROR when that is no TRUTH.");
        for (int x = 0; x < SAMPLES.length; x++) {
            for (int y = 0; y < SAMPLES.length; y++) {
                String text = SAMPLES[x] + " | " + SAMPLES[y];
                if (!isTruth(x) || WORTHS[x] == 0 && !isTruth(y)) {
                    error(text);
                } else {
                    truth(text, WORTHS[x] == 1 || WORTHS[y] == 1);
                }
            }
        }
        error("0 | true");
        error("1 | true");
    }

    private void and() {
        due.about("x & y: likewise, false when x is false (y is not needed), else y.");
        for (int x = 0; x < SAMPLES.length; x++) {
            for (int y = 0; y < SAMPLES.length; y++) {
                String text = SAMPLES[x] + " & " + SAMPLES[y];
                if (!isTruth(x) || WORTHS[x] == 1 && !isTruth(y)) {
                    error(text);
                } else {
                    truth(text, WORTHS[x] == 1 && WORTHS[y] == 1);
                }
            }
        }
        error("0 & false");
        error("1 & false");
    }

    private void choice() {
        due.about("x ? y : z: ERROR when x is no TRUTH; y when x is true, else z (the other one is not needed).");
        for (int y = 0; y < SAMPLES.length; y++) {
            is("true ? " + SAMPLES[y] + " : it", SORTS[y], WORTHS[y]);
            is("false ? it : " + SAMPLES[y], SORTS[y], WORTHS[y]);
            if (!isTruth(y)) {
                error(SAMPLES[y] + " ? 1 : 2");
            }
        }
        error("0 ? 1 : 2");
        error("1 ? 1 : 2");
    }

    private void ifNothing() {
        due.about("x ?: y: y when x is NOTHING, else x (y is not needed).");
        for (int x = 0; x < SAMPLES.length; x++) {
            is("null ?: " + SAMPLES[x], SORTS[x], WORTHS[x]);
            if (SORTS[x] != Write.NOTHING) {
                is(SAMPLES[x] + " ?: it", SORTS[x], WORTHS[x]);
            }
        }
        is("0 ?: 1", Write.INT, 0);
        is("0L ?: 1", Write.LONG, 0);
        is("list.?[false] ?: 1", Write.LIST, 0);
        is("list.^[false] ?: 1", Write.INT, 1);
        is("null ?: null ?: null", Write.NOTHING, 0);
    }

    private void not() {
        due.about("! x: of a TRUTH, else ERROR.");
        for (int x = 0; x < SAMPLES.length; x++) {
            is("!" + SAMPLES[x], isTruth(x) ? Write.TRUTH : Write.ERROR, isTruth(x) ? 1 - WORTHS[x] : 0);
        }
        error("!0");
        error("!1");
    }

    // ---- sameness

    private void pairsOfKinds() {
        due.about("all other pairs are not the same");
        String[] samples = {"null", "true", "false", "0", "1", "0L", "1L", "list", "list.?[false]"};
        // Those of one class are the same.
        int[] classes = {0, 1, 2, 3, 4, 3, 4, 5, 6};
        for (int x = 0; x < samples.length; x++) {
            for (int y = 0; y < samples.length; y++) {
                truth(samples[x] + " == " + samples[y], classes[x] == classes[y]);
                truth(samples[x] + " != " + samples[y], classes[x] != classes[y]);
            }
            error(samples[x] + " == it");
            error("it == " + samples[x]);
            error(samples[x] + " != it");
            error("it != " + samples[x]);
        }
        truth("list == 5", false);
        truth("list == 5L", false);
        truth("list[0] == list", false);
    }

    private void sameNumbers() {
        due.about("x == y: whether both are NUMBERS and the same number");
        for (int a : INTS) {
            for (long b : LONGS) {
                MethodWarden warden = with(a);
                asks(warden, "a == b", a, b, Write.TRUTH, a == b ? 1 : 0);
                asks(warden, "b == a", a, b, Write.TRUTH, a == b ? 1 : 0);
                asks(warden, "b == " + literal(b), a, b, Write.TRUTH, 1);
            }
            for (int other : INTS) {
                asks(with(other), "a == list[0]", a, 0, Write.TRUTH, a == other ? 1 : 0);
            }
        }
        truth("1 == 4294967297L", false);
        truth("-1 == 4294967295L", false);
        truth("0 == 4294967296L", false);
        truth("4294967296L == 8589934592L", false);
    }

    private void sameLists() {
        due.about("LISTs of the same INTs in the same order");
        // What came back is compared with the list that was received.
        MethodWarden warden = new MethodWarden();
        warden.login(1, 0);
        Write.define(warden, 0, "ret == list");
        warden.rules(0, -1, 0, -1);
        for (int size = 0; size <= 5; size++) {
            warden.target(0, 2, 0, 0);
            due.same("the same " + size + " items", warden.call(0, 0, 0), 0);
            warden.target(0, 2, 1, 0);
            due.same(size + " items, each another", warden.call(0, 0, 0), size == 0 ? 0 : 4);
            warden.add(size);
        }
        asks(warden, "list == list.?[it < a]", 5, 0, Write.TRUTH, 1);
        asks(warden, "list == list.?[it < a]", 4, 0, Write.TRUTH, 0);
        asks(warden, "list.?[it < a] == list", 4, 0, Write.TRUTH, 0);
        asks(warden, "list == list.?[it > a]", 0, 0, Write.TRUTH, 0);
        asks(warden, "list.?[it < 2] == list.?[it < 3 & it != 1]", 0, 0, Write.TRUTH, 0);
        asks(warden, "list.?[it != 0] == list.?[it != 1]", 0, 0, Write.TRUTH, 0);
        asks(warden, "list.?[it != 4] == list.?[it != 3]", 0, 0, Write.TRUTH, 0);
        asks(warden, "list.?[it < 0] == list.?[it > 9]", 0, 0, Write.TRUTH, 1);
        asks(warden, "list.?[it > 9] == list.?[it < 1]", 0, 0, Write.TRUTH, 0);
        MethodWarden twice = with(1, 2, 1, 2, 2);
        asks(twice, "list.?[it == 1] == list.?[it < 2]", 0, 0, Write.TRUTH, 1);
        asks(twice, "list.?[it == 1] == list.?[it == 2]", 0, 0, Write.TRUTH, 0);
        sameItemsInAnotherOrder();
    }

    /** Filters keep the order of items, so it takes wrapping to turn two of them round. */
    private void sameItemsInAnotherOrder() {
        MethodWarden warden = with(Integer.MAX_VALUE, Integer.MIN_VALUE, -1);
        warden.login(1, 0);
        // The largest INT and -1 become one another when the least one is added.
        warden.target(0, 2, Integer.MIN_VALUE, 0);
        Write.define(warden, 0, "ret == list");
        Write.define(warden, 1, "it == 2147483647 | it == -1");
        warden.rules(0, 1, 0, -1);
        due.same("the same two INTs, the other way round", warden.call(0, 0, 0), 4);
        Write.define(warden, 0, "ret[0] == list[1] & ret[1] == list[0]");
        due.same("they are so", warden.call(0, 0, 0), 0);
    }

    private void theOpposite() {
        due.about("x != y: the opposite.");
        for (int a : INTS) {
            for (long b : LONGS) {
                asks(with(), "a != b", a, b, Write.TRUTH, a != b ? 1 : 0);
            }
        }
        truth("list != list", false);
        truth("list != list.?[it > 0]", true);
        truth("null != null", false);
        truth("true != true", false);
        truth("true != false", true);
    }

    // ---- numbers

    private static String literal(long value) {
        if (value == Long.MIN_VALUE) {
            return "(-9223372036854775807L-1)";
        }
        return value < 0 ? "(-" + -value + "L)" : value + "L";
    }

    private static boolean compared(String sign, long x, long y) {
        switch (sign) {
            case "<": return x < y;
            case "<=": return x <= y;
            case ">": return x > y;
            case ">=": return x >= y;
            case "==": return x == y;
            default: return x != y;
        }
    }

    private void orderOfNumbersAlone() {
        due.about("x < y and the like: a TRUTH, of NUMBERS, else ERROR.");
        for (String sign : new String[] {"<", "<=", ">", ">="}) {
            for (int x = 0; x < SAMPLES.length; x++) {
                for (int y = 0; y < SAMPLES.length; y++) {
                    String text = SAMPLES[x] + " " + sign + " " + SAMPLES[y];
                    if (isNumber(x) && isNumber(y)) {
                        truth(text, compared(sign, WORTHS[x], WORTHS[y]));
                    } else {
                        error(text);
                    }
                }
            }
        }
    }

    private void orderAtTheEnds() {
        due.about("x < y and the like");
        for (String sign : COMPARING) {
            for (int a : INTS) {
                for (int other : INTS) {
                    asks(with(other), "a" + sign + "list[0]", a, 0, Write.TRUTH, compared(sign, a, other) ? 1 : 0);
                }
                for (long b : LONGS) {
                    asks(with(), "a" + sign + "b", a, b, Write.TRUTH, compared(sign, a, b) ? 1 : 0);
                    asks(with(), "b" + sign + "a", a, b, Write.TRUTH, compared(sign, b, a) ? 1 : 0);
                }
            }
            for (long b : LONGS) {
                for (long other : LONGS) {
                    boolean worth = compared(sign, b, other);
                    asks(with(), "b" + sign + literal(other), 0, b, Write.TRUTH, worth ? 1 : 0);
                }
            }
        }
    }

    private void reckoningOfNumbersAlone() {
        due.about("x + y, x - y, x * y, x / y, x % y: of NUMBERS, else ERROR");
        for (String sign : ARITHMETIC) {
            for (int x = 0; x < SAMPLES.length; x++) {
                for (int y = 0; y < SAMPLES.length; y++) {
                    if (!isNumber(x) || !isNumber(y)) {
                        error(SAMPLES[x] + " " + sign + " " + SAMPLES[y]);
                    }
                }
            }
        }
    }

    private void anIntWhenBothAreInts() {
        due.about("an INT when both are INTs, else a LONG");
        int[] worths = {10, 4, 21, 2, 1};
        for (int k = 0; k < ARITHMETIC.length; k++) {
            String sign = ARITHMETIC[k];
            is("7 " + sign + " 3", Write.INT, worths[k]);
            is("7L " + sign + " 3", Write.LONG, worths[k]);
            is("7 " + sign + " 3L", Write.LONG, worths[k]);
            is("7L " + sign + " 3L", Write.LONG, worths[k]);
        }
    }

    private static int reckonedInts(String sign, int x, int y) {
        switch (sign) {
            case "+": return x + y;
            case "-": return x - y;
            case "*": return x * y;
            case "/": return x / y;
            default: return x % y;
        }
    }

    private static long reckonedLongs(String sign, long x, long y) {
        switch (sign) {
            case "+": return x + y;
            case "-": return x - y;
            case "*": return x * y;
            case "/": return x / y;
            default: return x % y;
        }
    }

    private static boolean divides(String sign) {
        return sign.equals("/") || sign.equals("%");
    }

    private void reckons(String text, String sign, int a, long b, long x, long y) {
        if (divides(sign) && y == 0) {
            asks(with(), text, a, b, Write.ERROR, 0);
        } else {
            asks(with(), text, a, b, Write.LONG, reckonedLongs(sign, x, y));
        }
    }

    private void wrapsAsJavaDoes() {
        due.about("each wrapping as Java's int and long do");
        asks(with(), "a + 1", Integer.MAX_VALUE, 0, Write.INT, Integer.MIN_VALUE);
        asks(with(), "a - 1", Integer.MIN_VALUE, 0, Write.INT, Integer.MAX_VALUE);
        asks(with(), "a * 2", Integer.MAX_VALUE, 0, Write.INT, -2);
        asks(with(), "b + 1", 0, Long.MAX_VALUE, Write.LONG, Long.MIN_VALUE);
        asks(with(), "b - 1", 0, Long.MIN_VALUE, Write.LONG, Long.MAX_VALUE);
        asks(with(), "b * 2", 0, Long.MAX_VALUE, Write.LONG, -2);
        for (String sign : ARITHMETIC) {
            for (int a : INTS) {
                for (int other : INTS) {
                    if (!divides(sign) || other != 0) {
                        int worth = reckonedInts(sign, a, other);
                        asks(with(other), "a" + sign + "list[0]", a, 0, Write.INT, worth);
                    }
                }
                for (long b : LONGS) {
                    reckons("a" + sign + "b", sign, a, b, a, b);
                    reckons("b" + sign + "a", sign, a, b, b, a);
                }
            }
            for (long b : LONGS) {
                for (long other : LONGS) {
                    reckons("b" + sign + literal(other), sign, 0, b, b, other);
                }
            }
        }
    }

    private void byNought() {
        due.about("ERROR when y is 0");
        for (String sign : new String[] {"/", "%"}) {
            for (int a : INTS) {
                asks(with(), "a" + sign + "0", a, 0, Write.ERROR, 0);
                asks(with(), "a" + sign + "0L", a, 0, Write.ERROR, 0);
                asks(with(), "a" + sign + "(1-1)", a, 0, Write.ERROR, 0);
            }
            for (long b : LONGS) {
                asks(with(), "b" + sign + "0", 0, b, Write.ERROR, 0);
                asks(with(), "b" + sign + "0L", 0, b, Write.ERROR, 0);
            }
            // What is 0 in its low half alone is not 0.
            asks(with(), "0" + sign + "b", 0, 4294967296L, Write.LONG, 0);
            asks(with(), "0" + sign + "1", 0, 0, Write.INT, 0);
            asks(with(), "0" + sign + "-1", 0, 0, Write.INT, 0);
        }
    }

    private void towardsNought() {
        due.about("/ and % are Java's (towards 0, the remainder with the sign of x)");
        is("7 / 2", Write.INT, 3);
        is("-7 / 2", Write.INT, -3);
        is("7 / -2", Write.INT, -3);
        is("-7 / -2", Write.INT, 3);
        is("7 % 2", Write.INT, 1);
        is("-7 % 2", Write.INT, -1);
        is("7 % -2", Write.INT, 1);
        is("-7 % -2", Write.INT, -1);
        is("-1 / 2", Write.INT, 0);
        is("-1 % 2", Write.INT, -1);
        is("-7L / 2", Write.LONG, -3);
        is("-7 % 2L", Write.LONG, -1);
        asks(with(), "a / -1", Integer.MIN_VALUE, 0, Write.INT, Integer.MIN_VALUE);
        asks(with(), "a % -1", Integer.MIN_VALUE, 0, Write.INT, 0);
        asks(with(), "a / -1L", Integer.MIN_VALUE, 0, Write.LONG, 2147483648L);
        asks(with(), "b / -1", 0, Long.MIN_VALUE, Write.LONG, Long.MIN_VALUE);
        asks(with(), "b % -1", 0, Long.MIN_VALUE, Write.LONG, 0);
    }

    private void negative() {
        due.about("- x: of a NUMBER, of the same kind, wrapping; else ERROR.");
        for (int x = 0; x < SAMPLES.length; x++) {
            is("-" + SAMPLES[x], isNumber(x) ? SORTS[x] : Write.ERROR, isNumber(x) ? -WORTHS[x] : 0);
        }
        for (int a : INTS) {
            asks(with(), "-a", a, 0, Write.INT, -a);
            asks(with(), "--a", a, 0, Write.INT, a);
        }
        for (long b : LONGS) {
            asks(with(), "-b", 0, b, Write.LONG, -b);
        }
    }

    // ---- items and sizes

    private void itemsAtPlaces() {
        due.about("x[y]: the item of the LIST x at the place y, a NUMBER from 0");
        int[] items = {100, 101, 102, 103, 104};
        for (int size = 0; size <= 5; size++) {
            for (int place = -2; place <= 6; place++) {
                boolean isThere = place >= 0 && place < size;
                int sort = isThere ? Write.INT : Write.ERROR;
                int worth = isThere ? items[place] : 0;
                asks(with(Arrays.copyOf(items, size)), "list[a]", place, 0, sort, worth);
                asks(with(Arrays.copyOf(items, size)), "list[b]", 0, place, sort, worth);
            }
        }
        MethodWarden warden = with(items);
        for (int a : new int[] {Integer.MIN_VALUE, Integer.MAX_VALUE}) {
            asks(warden, "list[a]", a, 0, Write.ERROR, 0);
        }
        for (long b : new long[] {Long.MIN_VALUE, -4294967296L, 4294967296L, 4294967297L, 8589934592L, Long.MAX_VALUE}) {
            asks(warden, "list[b]", 0, b, Write.ERROR, 0);
        }
        asks(warden, "list.?[it > 102][1]", 0, 0, Write.INT, 104);
        asks(warden, "list.?[it > 102][2]", 0, 0, Write.ERROR, 0);
        asks(warden, "list.?[false][0]", 0, 0, Write.ERROR, 0);
    }

    private void itemsOfListsAlone() {
        due.about("ERROR when x is no LIST, y no NUMBER or there is no such item");
        for (int x = 0; x < SAMPLES.length; x++) {
            if (SORTS[x] != Write.LIST) {
                error(SAMPLES[x] + "[0]");
            }
            if (!isNumber(x)) {
                error("list[" + SAMPLES[x] + "]");
            }
        }
        error("list[0][0]");
        error("list[5]");
        error("list[-1]");
    }

    private void sizes() {
        due.about("x . size: how many items the LIST x has, an INT; ERROR for other x.");
        MethodWarden warden = with();
        for (int size = 0; size <= 5; size++) {
            asks(warden, "list.size", 0, 0, Write.INT, size);
            asks(warden, "list?.size", 0, 0, Write.INT, size);
            asks(warden, "list.?[it > 2].size", 0, 0, Write.INT, Math.max(0, size - 3));
            warden.add(size);
        }
        for (int x = 0; x < SAMPLES.length; x++) {
            if (SORTS[x] != Write.LIST) {
                error(SAMPLES[x] + ".size");
            }
        }
    }

    private void sizesOfNothing() {
        due.about("x ?. size: NOTHING when x is NOTHING, else as x . size.");
        is("null?.size", Write.NOTHING, 0);
        is("me?.size", Write.NOTHING, 0);
        is("list.^[false]?.size", Write.NOTHING, 0);
        is("list.?[false]?.size", Write.INT, 0);
        is("list?.size", Write.INT, 5);
        for (int x = 0; x < SAMPLES.length; x++) {
            if (SORTS[x] != Write.LIST && SORTS[x] != Write.NOTHING) {
                error(SAMPLES[x] + "?.size");
            }
        }
    }

    // ---- endings that look at items

    private void itemsThatAreTrue() {
        due.about("x .?[ y ]: the LIST of the items of x for which y is true");
        MethodWarden warden = with();
        for (int size = 0; size <= 5; size++) {
            asks(warden, "list.?[true]", 0, 0, Write.LIST, size);
            asks(warden, "list.?[false]", 0, 0, Write.LIST, 0);
            asks(warden, "list.?[true] == list", 0, 0, Write.TRUTH, 1);
            asks(warden, "list.?[it == a]", size - 1, 0, Write.LIST, size == 0 ? 0 : 1);
            warden.add(size);
        }
        is("list.?[it > 0]", Write.LIST, 3);
        is("list.?[it > 0][0]", Write.INT, 3);
        is("list.?[it > 0][1]", Write.INT, 4);
        is("list.?[it > 0][2]", Write.INT, 5);
        is("list.?[it > 0].?[it < 5].?[it != 3]", Write.LIST, 1);
        is("list.?[it < 0]", Write.LIST, 2);
    }

    private void theFirstAndTheLast() {
        due.about("x .^[ y ]: the first of them, an INT; x .$[ y ]: the last of them");
        MethodWarden warden = with();
        for (int size = 1; size <= 5; size++) {
            warden.add(size);
            asks(warden, "list.^[true]", 0, 0, Write.INT, 1);
            asks(warden, "list.$[true]", 0, 0, Write.INT, size);
            asks(warden, "list.^[it == a]", size, 0, Write.INT, size);
            asks(warden, "list.$[it == 1]", 0, 0, Write.INT, 1);
        }
        asks(warden, "list.^[it > 1 & it < 5]", 0, 0, Write.INT, 2);
        asks(warden, "list.$[it > 1 & it < 5]", 0, 0, Write.INT, 4);
    }

    private void noneFound() {
        due.about("these two are NOTHING when there is none");
        for (String sign : new String[] {".^[", ".$["}) {
            MethodWarden warden = with();
            asks(warden, "list" + sign + "true]", 0, 0, Write.NOTHING, 0);
            for (int size = 1; size <= 5; size++) {
                warden.add(size);
                asks(warden, "list" + sign + "false]", 0, 0, Write.NOTHING, 0);
                asks(warden, "list" + sign + "it > a]", size, 0, Write.NOTHING, 0);
                asks(warden, "list" + sign + "it < 1]", 0, 0, Write.NOTHING, 0);
            }
        }
    }

    private void ofListsAlone() {
        due.about("x must be a LIST, else ERROR.");
        for (String sign : new String[] {".?[", ".^[", ".$["}) {
            for (int x = 0; x < SAMPLES.length; x++) {
                if (SORTS[x] != Write.LIST) {
                    error(SAMPLES[x] + sign + "true]");
                    error(SAMPLES[x] + sign + "false]");
                }
            }
            error("list[0]" + sign + "true]");
            error("list.^[true]" + sign + "true]");
        }
    }

    private void noFurtherThanFound() {
        due.about("from the last one on for .$[, otherwise from the first one on, and for .^[ and .$[ "
                + "no further than to the one that is found");
        // 3 -1 4 -1 5: every item but the one that is found would be no TRUTH.
        is("list.^[it == 3 ? true : null]", Write.INT, 3);
        is("list.$[it == 5 ? true : null]", Write.INT, 5);
        is("list.^[it == 4 | it == -1 & null]", Write.ERROR, 0);
        is("list.^[it == -1 | it == 4 & null]", Write.INT, -1);
        is("list.$[it == 4 | it == 3 & null]", Write.INT, 4);
        is("list.$[it == 4 | it == 5 & null]", Write.ERROR, 0);
        is("list.^[it == 5 | it == 3 & null]", Write.ERROR, 0);
        is("list.^[it == 5 | it == 4 & null]", Write.ERROR, 0);
        is("list.$[it == 3 | it == 4 & null]", Write.ERROR, 0);
        // The one for the LIST looks at all of them, whatever was found.
        is("list.?[it == 3 | it == 5 & null]", Write.ERROR, 0);
        is("list.?[it == 5 | it == 3 & null]", Write.ERROR, 0);
    }

    private void noTruthForOneLookedAt() {
        due.about("ERROR when y is no TRUTH for one that is looked at");
        for (String sign : new String[] {".?[", ".^[", ".$["}) {
            for (int y = 0; y < SAMPLES.length; y++) {
                String text = "list" + sign + SAMPLES[y].replace("it", "ret") + "]";
                if (!isTruth(y)) {
                    error(text);
                    asks(with(), text, 0, 0, sign.equals(".?[") ? Write.LIST : Write.NOTHING, 0);
                }
            }
            error("list" + sign + "it]");
            error("list" + sign + "it == 4 ? null : false]");
        }
    }

    // ---- roles

    private void roleOfNumbersAlone() {
        due.about("role(x): ERROR when x is no NUMBER");
        for (int user = -1; user <= 0; user++) {
            MethodWarden warden = with(FULL);
            warden.login(user, 65535);
            for (int x = 0; x < SAMPLES.length; x++) {
                int sort = isNumber(x) ? Write.TRUTH : Write.ERROR;
                asks(warden, "role(" + SAMPLES[x] + ")", 0, 0, sort, isNumber(x) && user == 0 ? 1 : 0);
            }
        }
    }

    private void roleAtTheEnds() {
        due.about("whether x is one of the caller's REACHABLE roles");
        for (int role = -17; role <= 33; role++) {
            MethodWarden all = new MethodWarden();
            all.login(0, 65535);
            asks(all, "role(a)", role, 0, Write.TRUTH, role >= 0 && role <= 15 ? 1 : 0);
            asks(all, "role(b)", 0, role, Write.TRUTH, role >= 0 && role <= 15 ? 1 : 0);
        }
        MethodWarden warden = new MethodWarden();
        warden.login(0, 65535);
        for (long b : new long[] {Long.MIN_VALUE, -4294967296L, 4294967296L, 4294967311L, Long.MAX_VALUE}) {
            asks(warden, "role(b)", 0, b, Write.TRUTH, 0);
        }
        warden.login(0, 1 | 1 << 15);
        warden.senior(15, 14);
        for (int role = 0; role <= 15; role++) {
            asks(warden, "role(a)", role, 0, Write.TRUTH, role == 0 || role >= 14 ? 1 : 0);
        }
    }

    private void roleOfNobody() {
        due.about("false when nobody is logged in");
        MethodWarden warden = new MethodWarden();
        asks(warden, "role(0)", 0, 0, Write.TRUTH, 0);
        warden.login(5, 65535);
        asks(warden, "role(0)", 0, 0, Write.TRUTH, 1);
        warden.login(-1, 65535);
        for (int role = 0; role <= 15; role++) {
            asks(warden, "role(a)", role, 0, Write.TRUTH, 0);
        }
    }
}
