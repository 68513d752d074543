/** Promises 1 to 11: a test for each sentence that names an edge. */
public final class SettingEdgesTest {
    private static final int ALL = 65535;
    private static final int LEAST = Integer.MIN_VALUE;
    private static final int MOST = Integer.MAX_VALUE;

    private final Due due = new Due("SettingEdgesTest");

    public static void main(String[] args) {
        SettingEdgesTest test = new SettingEdgesTest();
        test.newObject();
        test.type();
        test.define();
        test.senior();
        test.login();
        test.list();
        test.guard();
        test.rules();
        test.target();
        test.due.finish();
    }

    private void newObject() {
        nobodyNoTextNoExpressions();
        noGuardsFiltersOrChecks();
        noRoleIncludesAnother();
        theListIsEmpty();
        targetsAreOfKindNought();
        countsAreNought();
    }

    private void type() {
        codesThatAreTaken();
        fortyEightCharacters();
    }

    private void define() {
        slotsToDefine();
        theTextIsEmptyInAnyCase();
        theNewExpressionCountsEverywhere();
        aFaultLeavesTheSlot();
    }

    private void senior() {
        rolesThatMayInclude();
        directlyAlready();
        aRoleAndItself();
        whatWouldGoRound();
        fromNowOn();
    }

    private void login() {
        insteadOfWhoeverIsThere();
        rolesOfNobody();
        usersAndRoleSets();
        contextAtItsEnds();
    }

    private void list() {
        atTheEnd();
        fiveItems();
        callsDoNotChangeIt();
        emptied();
    }

    private void guard() {
        placesAndKinds();
        whatXMayBe();
        xThatIsNotLookedAt();
        takesTheGuardAway();
        anotherKindOrTheSame();
        noneToTakeAway();
    }

    private void rules() {
        methodsWithRules();
        slotsOfRules();
        minusOneIsNone();
    }

    private void target() {
        methodsKindsAndExtraRoles();
        usersToMake();
        methodsToCall();
        numbersOfTheOthers();
    }

    private void taken(String what, boolean got, boolean want) {
        due.same(what, got ? 1 : 0, want ? 1 : 0);
    }

    // ---- promise 1

    private void nobodyNoTextNoExpressions() {
        due.about("Nobody is logged in; no text, no expressions");
        MethodWarden fresh = new MethodWarden();
        due.same("context", fresh.context(), -1);
        due.same("the empty text", fresh.define(0), 0);
        for (int slot = 0; slot <= 7; slot++) {
            due.same("slot " + slot, fresh.ask(slot, 0, 0), -2);
            due.no("a guard of slot " + slot, fresh.guard(0, 4, slot));
            due.no("a rule of slot " + slot, fresh.rules(0, slot, -1, -1));
        }
        due.same("asked", fresh.asked(), 0);
    }

    private void noGuardsFiltersOrChecks() {
        due.about("no guards, filters or checks");
        MethodWarden fresh = new MethodWarden();
        for (int place = 0; place <= 9; place++) {
            due.no("guard at " + place, fresh.guard(place, 0, 0));
        }
        for (int m = 0; m <= 7; m++) {
            due.same("nobody calls " + m, fresh.call(m, 0, 0), 0);
        }
    }

    private void noRoleIncludesAnother() {
        due.about("no role includes another");
        MethodWarden fresh = new MethodWarden();
        for (int role = 0; role <= 15; role++) {
            fresh.login(0, 1 << role);
            due.same("role " + role, fresh.context(), 1 << role);
        }
    }

    private void theListIsEmpty() {
        due.about("the list is empty");
        MethodWarden fresh = new MethodWarden();
        fresh.target(0, 2, 0, 0);
        fresh.call(0, 0, 0);
        due.same("a LIST", fresh.kind(), 2);
        due.same("of no items", fresh.number(), 0);
        due.same("size", Write.answer(fresh, "list.size"), 0);
    }

    private void targetsAreOfKindNought() {
        due.about("all targets are of kind 0 with the number 0 and no extra roles");
        MethodWarden fresh = new MethodWarden();
        fresh.add(1);
        for (int m = 0; m <= 7; m++) {
            due.same("END of " + m, fresh.call(m, 5, 5), 0);
            due.same("kind", fresh.kind(), 0);
            due.same("number", fresh.number(), 0);
        }
    }

    private void countsAreNought() {
        due.about("all counts are 0");
        MethodWarden fresh = new MethodWarden();
        for (int m = 0; m <= 7; m++) {
            for (int end = 0; end <= 5; end++) {
                due.same("count(" + m + ", " + end + ")", fresh.count(m, end), 0);
            }
        }
    }

    // ---- promise 2

    private void codesThatAreTaken() {
        due.about("refused (false) when its code is not 32 .. 126");
        for (int code = 0; code <= 65535; code++) {
            taken("code " + code, new MethodWarden().type((char) code), code >= 32 && code <= 126);
        }
        MethodWarden warden = new MethodWarden();
        warden.type('7');
        for (int code : new int[] {0, 9, 10, 31, 127, 128, 160, 255, 256, 256 + '7', 65535}) {
            due.no("code " + code, warden.type((char) code));
        }
        due.same("a refused one is not in the text", warden.define(0), -1);
        warden.ask(0, 0, 0);
        due.same("so it is the number typed", warden.asked(), 7);
    }

    private void fortyEightCharacters() {
        due.about("or the text has 48 characters");
        MethodWarden warden = new MethodWarden();
        for (int k = 0; k < 46; k++) {
            due.yes("character " + k, warden.type('0'));
        }
        due.yes("the 47th", warden.type('1'));
        due.yes("the 48th", warden.type('2'));
        due.no("the 49th", warden.type('3'));
        due.no("once more", warden.type(' '));
        due.same("define", warden.define(0), -1);
        warden.ask(0, 0, 0);
        due.same("the number typed", warden.asked(), 12);
        for (int k = 0; k < 48; k++) {
            due.yes("as many again, " + k, warden.type('('));
        }
        due.no("the 49th again", warden.type('('));
        due.same("48 characters", warden.define(0), 48);
    }

    // ---- promise 3

    private void slotsToDefine() {
        due.about("Refused (-2) when slot is not 0 .. 7.");
        MethodWarden warden = new MethodWarden();
        warden.type('5');
        for (int slot : new int[] {-1, 8, -2, 9, LEAST, MOST}) {
            due.same("slot " + slot, warden.define(slot), -2);
        }
        due.same("the text is still there", warden.define(0), -1);
        for (int slot = 0; slot <= 7; slot++) {
            due.same("slot " + slot, Write.define(warden, slot, "" + slot), -1);
        }
        for (int slot = 0; slot <= 7; slot++) {
            warden.ask(slot, 0, 0);
            due.same("its expression", warden.asked(), slot);
        }
        due.same("the empty text is refused too", warden.define(8), -2);
    }

    private void theTextIsEmptyInAnyCase() {
        due.about("Otherwise the text is read, and then it is empty, in any case");
        MethodWarden warden = new MethodWarden();
        String[] texts = {"a", "a b", "#", "", " ", "(", Write.repeated("-", 21), Write.repeated(" ", 48),
            Write.repeated("0", 48)};
        for (String text : texts) {
            Write.define(warden, 0, text);
            due.same("after '" + text + "'", warden.define(1), 0);
        }
        due.same("the next one is read alone", Write.define(warden, 1, "3"), -1);
        warden.ask(1, 0, 0);
        due.same("its value", warden.asked(), 3);
    }

    private void theNewExpressionCountsEverywhere() {
        due.about("that becomes the expression of the slot, instead of an earlier one also in guards, filters and "
                + "checks that have this slot's expression, and the answer is -1");
        for (int slot = 0; slot <= 7; slot += 7) {
            MethodWarden warden = new MethodWarden();
            warden.login(1, 0);
            warden.add(4);
            Write.define(warden, slot, "true");
            for (int m = 0; m <= 3; m++) {
                warden.target(m, 2, 0, 0);
            }
            warden.guard(0, 4, slot);
            warden.rules(1, slot, -1, -1);
            warden.rules(2, -1, slot, -1);
            warden.rules(3, -1, -1, slot);
            warden.guard(9, 4, slot);
            for (int m = 0; m <= 4; m++) {
                due.same("true at method " + m, warden.call(m, 0, 0), 0);
            }
            due.same("another one", Write.define(warden, slot, "null"), -1);
            int[] ends = {2, 2, 4, 4, 2};
            for (int m = 0; m <= 4; m++) {
                due.same("null at method " + m, warden.call(m, 0, 0), ends[m]);
            }
            due.same("twenty parts", Write.define(warden, slot, Write.repeated("!", 19) + "false"), -1);
            for (int m = 0; m <= 4; m++) {
                due.same("true again at method " + m, warden.call(m, 0, 0), 0);
            }
        }
    }

    private void aFaultLeavesTheSlot() {
        due.about("else the answer is the FAULT and the slot stays as it is");
        String[] texts = {"", "#", "false false", Write.repeated("!", 20) + "true", "false" + Write.repeated(" ", 42) + "&"};
        int[] faults = {0, 0, 6, 20, 48};
        MethodWarden warden = new MethodWarden();
        warden.login(1, 0);
        Write.define(warden, 0, "true");
        warden.guard(0, 4, 0);
        warden.rules(1, -1, 0, -1);
        for (int k = 0; k < texts.length; k++) {
            due.same("the slot's, '" + texts[k] + "'", Write.define(warden, 0, texts[k]), faults[k]);
            due.same("sort", warden.ask(0, 0, 0), Write.TRUTH);
            due.same("value", warden.asked(), 1);
            due.same("in a guard", warden.call(0, 0, 0), 0);
            due.same("in a check", warden.call(1, 0, 0), 0);
            due.same("a free slot, '" + texts[k] + "'", Write.define(warden, 7, texts[k]), faults[k]);
            due.same("is still free", warden.ask(7, 0, 0), -2);
            due.no("for guards", warden.guard(2, 4, 7));
            due.no("for rules", warden.rules(2, -1, -1, 7));
        }
    }

    // ---- promise 4

    private void rolesThatMayInclude() {
        due.about("refused (false) when one of them is not 0 .. 15");
        for (int role : new int[] {-1, 16, -2, 17, 31, 32, 33, 47, LEAST, MOST}) {
            MethodWarden warden = new MethodWarden();
            due.no("senior(" + role + ", 0)", warden.senior(role, 0));
            due.no("senior(0, " + role + ")", warden.senior(0, role));
            due.no("senior(" + role + ", 15)", warden.senior(role, 15));
            due.no("senior(15, " + role + ")", warden.senior(15, role));
            due.no("both", warden.senior(role, role));
            for (int each = 0; each <= 15; each++) {
                warden.login(0, 1 << each);
                due.same("role " + each + " includes nothing", warden.context(), 1 << each);
            }
        }
        for (int x = 0; x <= 15; x++) {
            for (int y = 0; y <= 15; y++) {
                MethodWarden warden = new MethodWarden();
                taken("senior(" + x + ", " + y + ")", warden.senior(x, y), x != y);
                warden.login(0, 1 << x);
                due.same("from " + x, warden.context(), 1 << x | 1 << y);
                warden.login(0, 1 << y);
                due.same("from " + y, warden.context(), 1 << y);
            }
        }
    }

    private void directlyAlready() {
        due.about("x includes y directly already");
        MethodWarden warden = new MethodWarden();
        due.yes("once", warden.senior(0, 15));
        due.no("twice", warden.senior(0, 15));
        due.yes("to another", warden.senior(0, 14));
        due.no("the first once more", warden.senior(0, 15));
        due.yes("from another", warden.senior(1, 15));
        due.yes("2 includes 1", warden.senior(2, 1));
        due.yes("2 includes 15 through 1, now directly too", warden.senior(2, 15));
        due.no("now directly already", warden.senior(2, 15));
        due.yes("3 includes 2", warden.senior(3, 2));
        due.yes("3 includes 15 through two others", warden.senior(3, 15));
        warden.login(0, 1 << 3);
        due.same("all of it", warden.context(), 1 << 3 | 1 << 2 | 1 << 1 | 1 << 15);
    }

    private void aRoleAndItself() {
        due.about("x is y");
        MethodWarden warden = new MethodWarden();
        for (int role = 0; role <= 15; role++) {
            due.no("role " + role, warden.senior(role, role));
        }
        warden.senior(0, 1);
        due.no("one that includes another", warden.senior(0, 0));
        due.no("one that is included", warden.senior(1, 1));
    }

    private void whatWouldGoRound() {
        due.about("or y includes x, directly or through others");
        MethodWarden warden = new MethodWarden();
        for (int role = 0; role < 15; role++) {
            due.yes("chain at " + role, warden.senior(role, role + 1));
        }
        for (int x = 0; x <= 15; x++) {
            for (int y = 0; y < x; y++) {
                due.no("senior(" + x + ", " + y + ")", warden.senior(x, y));
            }
        }
        for (int role = 0; role <= 15; role++) {
            warden.login(0, 1 << role);
            due.same("nothing was included", warden.context(), ALL & -(1 << role));
        }
        // Two chains that meet: the lower one's end is included by the upper one's beginning.
        MethodWarden meeting = new MethodWarden();
        meeting.senior(2, 3);
        meeting.senior(0, 1);
        due.yes("the upper one's end may still include it", meeting.senior(1, 2));
        due.no("the whole chain round", meeting.senior(3, 0));
        due.no("half of it round", meeting.senior(3, 1));
        due.yes("one beside them", meeting.senior(3, 4));
        due.no("then that one neither", meeting.senior(4, 0));
    }

    private void fromNowOn() {
        due.about("From now on role x includes role y directly");
        MethodWarden warden = new MethodWarden();
        warden.login(3, 1);
        warden.senior(0, 15);
        due.same("for one who is logged in", warden.context(), 3 * 65536 + (1 | 1 << 15));
        warden.senior(15, 7);
        due.same("through it", warden.context(), 3 * 65536 + (1 | 1 << 7 | 1 << 15));
        warden.senior(8, 9);
        due.same("not what is included by another", warden.context(), 3 * 65536 + (1 | 1 << 7 | 1 << 15));
    }

    // ---- promises 5 and 6

    private void insteadOfWhoeverIsThere() {
        due.about("Logs the user in with these roles, instead of whoever is logged in");
        MethodWarden warden = new MethodWarden();
        due.yes("instead of nobody", warden.login(5, ALL));
        due.same("context", warden.context(), 5 * 65536 + ALL);
        due.yes("instead of another", warden.login(6, 1));
        due.same("without the other's roles", warden.context(), 6 * 65536 + 1);
        due.yes("instead of oneself", warden.login(6, 2));
        due.same("without one's own from before", warden.context(), 6 * 65536 + 2);
        due.yes("without roles", warden.login(6, 0));
        due.same("none are left", warden.context(), 6 * 65536);
    }

    private void rolesOfNobody() {
        due.about("user -1: nobody is logged in any more (roles is not looked at)");
        MethodWarden warden = new MethodWarden();
        for (int roles : new int[] {0, ALL, -1, 65536, LEAST, MOST}) {
            due.yes("nobody where nobody is", warden.login(-1, roles));
            due.same("context", warden.context(), -1);
            warden.login(0, ALL);
            due.yes("roles " + roles, warden.login(-1, roles));
            due.same("context", warden.context(), -1);
        }
    }

    private void usersAndRoleSets() {
        due.about("Refused (false) when user is not -1 .. 999, or it is 0 .. 999 and roles is not 0 .. 65535.");
        MethodWarden warden = new MethodWarden();
        warden.login(7, 9);
        for (int user : new int[] {-2, 1000, -3, 1001, LEAST, MOST}) {
            for (int roles : new int[] {0, ALL, -1, 65536}) {
                due.no("user " + user + ", roles " + roles, warden.login(user, roles));
                due.same("still the same", warden.context(), 7 * 65536 + 9);
            }
        }
        for (int user : new int[] {0, 7, 999}) {
            for (int roles : new int[] {-1, 65536, -2, 65537, 131072, LEAST, MOST}) {
                due.no("user " + user + ", roles " + roles, warden.login(user, roles));
                due.same("still the same", warden.context(), 7 * 65536 + 9);
            }
        }
        for (int user : new int[] {0, 1, 998, 999}) {
            for (int roles : new int[] {0, 1, 65534, ALL}) {
                due.yes("user " + user + ", roles " + roles, warden.login(user, roles));
                due.same("context", warden.context(), user * 65536 + roles);
            }
        }
    }

    private void contextAtItsEnds() {
        due.about("The user times 65536 plus the REACHABLE roles as a set; -1 when nobody is logged in.");
        MethodWarden warden = new MethodWarden();
        due.same("nobody", warden.context(), -1);
        warden.login(0, 0);
        due.same("the least", warden.context(), 0);
        warden.login(999, ALL);
        due.same("the largest", warden.context(), 65535999);
        warden.senior(15, 0);
        warden.login(999, 1 << 15);
        due.same("with what is included", warden.context(), 999 * 65536 + (1 << 15) + 1);
        warden.login(999, 1 << 15 | 1);
        due.same("each role once", warden.context(), 999 * 65536 + (1 << 15) + 1);
        warden.login(-1, ALL);
        due.same("nobody again", warden.context(), -1);
    }

    // ---- promises 7 and 8

    private void atTheEnd() {
        due.about("Adds an item at the end of the list that calls begin with and answers true");
        MethodWarden warden = new MethodWarden();
        warden.target(0, 4, 0, 0);
        int[] items = {MOST, 7, 7, -7, LEAST};
        for (int size = 1; size <= 5; size++) {
            due.yes("item " + size, warden.add(items[size - 1]));
            warden.call(0, 0, 0);
            due.same("items", warden.number(), size);
            for (int k = 0; k < size; k++) {
                due.same("item " + k + " of " + size, warden.itemAt(k), items[k]);
            }
        }
    }

    private void fiveItems() {
        due.about("refused (false) when it has five");
        MethodWarden warden = new MethodWarden();
        int[] items = {LEAST, -1, 0, 1, MOST};
        for (int k = 0; k < 5; k++) {
            due.yes("item " + k, warden.add(items[k]));
        }
        due.no("a sixth", warden.add(9));
        due.no("a seventh", warden.add(LEAST));
        warden.target(0, 2, 0, 0);
        warden.call(0, 0, 0);
        due.same("items", warden.number(), 5);
        for (int k = 0; k < 5; k++) {
            due.same("item " + k, warden.itemAt(k), items[k]);
        }
        due.no("after a call", warden.add(9));
    }

    private void callsDoNotChangeIt() {
        due.about("(Calls do not change that list.)");
        for (int size = 0; size <= 5; size++) {
            MethodWarden warden = new MethodWarden();
            warden.login(1, 0);
            for (int k = 0; k < size; k++) {
                warden.add(k);
            }
            Write.define(warden, 0, "false");
            Write.define(warden, 1, "list.size");
            warden.target(0, 2, 5, 0);
            warden.target(1, 5, 0, 0);
            warden.call(0, 0, 0);
            warden.call(1, 0, 0);
            warden.rules(0, 0, -1, -1);
            warden.call(0, 0, 0);
            warden.rules(0, -1, -1, 0);
            warden.call(1, 0, 0);
            warden.ask(1, 0, 0);
            due.same("size", warden.asked(), size);
            for (int k = 0; k < size; k++) {
                due.same("item " + k, Write.answer(warden, "list[a]", k, 0), k);
            }
            taken("room", warden.add(9), size < 5);
        }
    }

    private void emptied() {
        due.about("The list that calls begin with becomes empty.");
        for (int size = 0; size <= 5; size++) {
            MethodWarden warden = new MethodWarden();
            warden.target(0, 2, 0, 0);
            for (int k = 0; k < size; k++) {
                warden.add(k + 1);
            }
            warden.call(0, 0, 0);
            warden.empty();
            due.same("what came back stays", warden.number(), size);
            due.same("its item stays", warden.itemAt(0), size == 0 ? 0 : 1);
            due.same("size", Write.answer(warden, "list.size"), 0);
            due.same("no item", Write.sort(warden, "list[0]", 0, 0), Write.ERROR);
            for (int k = 0; k < 5; k++) {
                due.yes("room for item " + k, warden.add(70 + k));
            }
            due.no("and for no more", warden.add(75));
            due.same("the new ones", Write.answer(warden, "list[4] - list[0]"), 4);
        }
    }

    // ---- promise 9

    private static MethodWarden withSlots() {
        MethodWarden warden = new MethodWarden();
        warden.login(1, 0);
        Write.define(warden, 0, "false");
        Write.define(warden, 7, "true");
        return warden;
    }

    private void placesAndKinds() {
        due.about("refused (false) when place is not 0 .. 9, kind not 0 .. 4");
        for (int kind = 0; kind <= 4; kind++) {
            MethodWarden warden = withSlots();
            for (int place : new int[] {-1, 10, -2, 11, LEAST, MOST}) {
                due.no("place " + place + ", kind " + kind, warden.guard(place, kind, 0));
            }
            for (int place = 0; place <= 9; place++) {
                taken("place " + place + ", kind " + kind, warden.guard(place, kind, 0), kind != 0);
            }
        }
        for (int kind : new int[] {-1, 5, -2, 6, LEAST, MOST}) {
            MethodWarden warden = withSlots();
            for (int place = 0; place <= 9; place++) {
                due.no("kind " + kind, warden.guard(place, kind, 0));
                due.no("no guard came of it", warden.guard(place, 0, 0));
                warden.guard(place, 2, 0);
                due.no("kind " + kind + " upon another", warden.guard(place, kind, 0));
                due.yes("that one is still there", warden.guard(place, 2, 0));
            }
        }
    }

    private void whatXMayBe() {
        due.about("3 (x: the set of roles, 0 .. 65535) or 4 (x: a slot that has an expression)");
        MethodWarden warden = withSlots();
        for (int place = 0; place <= 9; place += 9) {
            for (int x : new int[] {-1, 65536, -2, 65537, 131071, LEAST, MOST}) {
                due.no("roles " + x, warden.guard(place, 3, x));
            }
            for (int x : new int[] {-1, 8, -2, 9, 1, 6, LEAST, MOST}) {
                due.no("slot " + x, warden.guard(place, 4, x));
            }
            due.no("none of these is there", warden.guard(place, 0, 0));
            for (int x : new int[] {0, 1, 65534, ALL}) {
                due.yes("roles " + x, warden.guard(place, 3, x));
            }
            due.yes("taken away", warden.guard(place, 0, 0));
            due.yes("slot 0", warden.guard(place, 4, 0));
            due.yes("slot 7", warden.guard(place, 4, 7));
            for (int x : new int[] {-1, 8, 1, 6}) {
                due.no("slot " + x + " instead", warden.guard(place, 4, x));
            }
            due.same("slot 7 is still the one", warden.call(place == 0 ? 0 : 7, 0, 0), 0);
        }
    }

    private void xThatIsNotLookedAt() {
        due.about("kind 1 or 2 (x is not looked at)");
        MethodWarden warden = withSlots();
        for (int x : new int[] {-1, 0, 65536, LEAST, MOST}) {
            for (int kind = 1; kind <= 2; kind++) {
                due.yes("kind " + kind + ", x " + x, warden.guard(3, kind, x));
                due.same("it stands", warden.call(3, 0, 0), kind == 1 ? 0 : 2);
                warden.guard(3, 0, 0);
            }
        }
    }

    private void takesTheGuardAway() {
        due.about("kind 0 (x is not looked at) takes the guard away");
        for (int x : new int[] {-1, 0, 65536, LEAST, MOST}) {
            MethodWarden warden = withSlots();
            for (int kind = 1; kind <= 4; kind++) {
                warden.guard(3, kind, 0);
                due.same("it stands", warden.call(3, 0, 0), kind == 1 ? 0 : 2);
                due.yes("x " + x, warden.guard(3, 0, x));
                due.same("it is gone", warden.call(3, 0, 0), 0);
            }
        }
    }

    private void anotherKindOrTheSame() {
        due.about("instead of one of the same kind, if there is one");
        int[] xs = {0, 0, 0, ALL, 7};
        for (int kind = 1; kind <= 4; kind++) {
            for (int other = 1; other <= 4; other++) {
                MethodWarden warden = withSlots();
                due.yes("put", warden.guard(0, kind, xs[kind]));
                taken(other + " upon " + kind, warden.guard(0, other, xs[other]), other == kind);
                due.yes("still of kind " + kind, warden.guard(0, kind, xs[kind]));
                due.yes("taken away", warden.guard(0, 0, 0));
                due.yes("then any kind", warden.guard(0, other, xs[other]));
            }
        }
        MethodWarden warden = withSlots();
        warden.login(1, 1);
        warden.guard(0, 3, 2);
        due.same("roles that are not there", warden.call(0, 0, 0), 2);
        warden.guard(0, 3, 1);
        due.same("others instead", warden.call(0, 0, 0), 0);
        warden.guard(0, 3, 0);
        due.same("none instead", warden.call(0, 0, 0), 2);
        warden.guard(1, 4, 7);
        due.same("a true expression", warden.call(1, 0, 0), 0);
        warden.guard(1, 4, 0);
        due.same("another instead", warden.call(1, 0, 0), 2);
    }

    private void noneToTakeAway() {
        due.about("there is a guard of another kind (with kind 1 .. 4), or there is none (with kind 0)");
        MethodWarden warden = withSlots();
        int[] xs = {0, 0, 0, ALL, 7};
        for (int place = 0; place <= 9; place++) {
            for (int kind = 1; kind <= 4; kind++) {
                due.no("none there", warden.guard(place, 0, 0));
                warden.guard(place, kind, xs[kind]);
                due.yes("one there", warden.guard(place, 0, 0));
                due.no("none any more", warden.guard(place, 0, 0));
            }
        }
        warden.guard(8, 2, 0);
        due.no("the type's is not the method's", warden.guard(0, 0, 0));
        due.yes("so the method may have another kind", warden.guard(0, 1, 0));
    }

    // ---- promise 10

    private void methodsWithRules() {
        due.about("refused (false) when m is not 0 .. 7, or one of the three is neither -1 nor a slot that has an "
                + "expression");
        MethodWarden warden = withSlots();
        for (int m : new int[] {-1, 8, -2, 9, LEAST, MOST}) {
            due.no("method " + m, warden.rules(m, -1, -1, -1));
            due.no("method " + m, warden.rules(m, 0, 0, 0));
        }
        for (int m = 0; m <= 7; m++) {
            due.same("none has got a check", warden.call(m, 0, 0), 0);
            due.yes("method " + m, warden.rules(m, -1, 0, -1));
            due.same("its check is false", warden.call(m, 0, 0), 4);
        }
    }

    private void slotsOfRules() {
        due.about("one of the three is neither -1 nor a slot that has an expression");
        for (int m = 0; m <= 7; m += 7) {
            MethodWarden warden = withSlots();
            warden.rules(m, -1, 0, -1);
            for (int slot : new int[] {-2, 1, 6, 8, -3, 9, LEAST, MOST}) {
                due.no("filter in " + slot, warden.rules(m, slot, -1, -1));
                due.no("check " + slot, warden.rules(m, -1, slot, -1));
                due.no("filter out " + slot, warden.rules(m, -1, -1, slot));
                due.no("filter in " + slot, warden.rules(m, slot, 7, 7));
                due.no("check " + slot, warden.rules(m, 7, slot, 7));
                due.no("filter out " + slot, warden.rules(m, 7, 7, slot));
            }
            due.same("the check from before is there", warden.call(m, 0, 0), 4);
            for (int in = -1; in <= 7; in += in == -1 ? 1 : 7) {
                for (int check = -1; check <= 7; check += check == -1 ? 1 : 7) {
                    for (int out = -1; out <= 7; out += out == -1 ? 1 : 7) {
                        due.yes(in + " " + check + " " + out, warden.rules(m, in, check, out));
                        due.same("its END", warden.call(m, 0, 0), check == 0 ? 4 : 0);
                    }
                }
            }
        }
    }

    private void minusOneIsNone() {
        due.about("-1: it has none");
        for (int three = 0; three < 8; three++) {
            MethodWarden warden = withSlots();
            warden.target(0, 2, 0, 0);
            warden.add(4);
            Write.define(warden, 3, "null");
            warden.rules(0, 3, 3, 3);
            due.same("all three", warden.call(0, 0, 0), 2);
            int in = (three & 1) == 1 ? 3 : -1;
            int check = (three & 2) == 2 ? 3 : -1;
            int out = (three & 4) == 4 ? 3 : -1;
            warden.rules(0, in, check, out);
            int want = in == 3 ? 2 : check == 3 || out == 3 ? 4 : 0;
            due.same("some of the three: " + three, warden.call(0, 0, 0), want);
            warden.login(-1, 0);
            due.same("watched by them", warden.call(0, 0, 0), three == 0 ? 0 : 3);
        }
    }

    // ---- promise 11

    private void methodsKindsAndExtraRoles() {
        due.about("refused (false) when m is not 0 .. 7, how not 0 .. 6, extra not 0 .. 65535");
        MethodWarden warden = new MethodWarden();
        for (int m : new int[] {-1, 8, -2, 9, LEAST, MOST}) {
            due.no("method " + m, warden.target(m, 1, 0, 0));
        }
        for (int how : new int[] {-1, 7, -2, 8, LEAST, MOST}) {
            due.no("kind " + how, warden.target(0, how, 0, 0));
            due.no("kind " + how, warden.target(7, how, 0, ALL));
        }
        for (int how = 0; how <= 6; how++) {
            for (int extra : new int[] {-1, 65536, -2, 65537, LEAST, MOST}) {
                due.no("kind " + how + ", extra " + extra, warden.target(0, how, 1, extra));
            }
        }
        for (int m = 0; m <= 7; m++) {
            due.same("END", warden.call(m, 0, 0), 0);
            due.same("all is as before", warden.kind(), 0);
        }
        for (int m = 0; m <= 7; m++) {
            for (int how = 0; how <= 6; how++) {
                due.yes("method " + m + ", kind " + how, warden.target(m, how, 1, 0));
                due.yes("all extra roles", warden.target(m, how, 1, ALL));
            }
        }
    }

    private void usersToMake() {
        due.about("how is 4 and k not 0 .. 999");
        MethodWarden warden = new MethodWarden();
        warden.target(0, 3, 5, 0);
        for (int k : new int[] {-1, 1000, -2, 1001, LEAST, MOST}) {
            due.no("user " + k, warden.target(0, 4, k, 0));
            due.same("the earlier target stays", warden.call(0, 0, 0), 1);
        }
        for (int k : new int[] {0, 1, 998, 999}) {
            due.yes("user " + k, warden.target(0, 4, k, 0));
            due.same("it gives back a list", warden.call(0, 0, 0), 0);
        }
    }

    private void methodsToCall() {
        due.about("or how is 5 or 6 and k not 0 .. 7");
        for (int how = 5; how <= 6; how++) {
            MethodWarden warden = new MethodWarden();
            warden.target(0, 3, 5, 0);
            for (int k : new int[] {-1, 8, -2, 9, 999, LEAST, MOST}) {
                due.no("method " + k, warden.target(0, how, k, 0));
                due.same("the earlier target stays", warden.call(0, 0, 0), 1);
                due.same("the earlier number stays", warden.number(), 5);
            }
            for (int k = 1; k <= 7; k++) {
                warden.target(k, 1, 10 * k, 0);
                due.yes("method " + k, warden.target(0, how, k, 0));
                due.same("it is called", warden.call(0, 3, 0), 0);
                due.same("what it gives back", warden.number(), 10 * k + 3);
            }
            due.yes("method 0", warden.target(0, how, 0, 0));
            due.same("it is called again and again", warden.call(0, 3, 0), 1);
        }
    }

    private void numbersOfTheOthers() {
        due.about("Method m gets a target of kind how with the number k and the extra roles.");
        MethodWarden warden = new MethodWarden();
        for (int k : new int[] {LEAST, -1, 0, 7, 8, 999, 1000, MOST}) {
            for (int how = 0; how <= 3; how++) {
                due.yes("kind " + how + ", number " + k, warden.target(6, how, k, 0));
                due.same("END", warden.call(6, 0, 0), how == 3 ? 1 : 0);
                due.same("kind", warden.kind(), how == 3 ? -1 : how);
                due.same("number", warden.number(), how == 1 || how == 3 ? k : 0);
            }
        }
    }
}
