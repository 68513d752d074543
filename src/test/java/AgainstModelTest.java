import java.util.Random;

/** Promises 2 to 18 once more: long runs of calls, each answer compared with the plain model's. */
public final class AgainstModelTest {
    private static final int RUNS = 1500;
    private static final int TEXTS = 40000;
    private static final int CALLS = 512;
    private static final String[] SIGNS = {"|", "&", "==", "!=", "<", "<=", ">", ">=", "+", "-", "*", "/", "%"};
    private static final String[] PIECES = {"true", "false", "null", "me", "a", "b", "it", "ret", "list", "role",
        "size", "(", ")", "[", "]", ":", "?", "|", "&", "<", ">", "+", "-", "*", "/", "%", "!", ".", "==", "!=",
        "<=", ">=", "?:", "?.", ".?[", ".^[", ".$[", "0", "1", "2L", "2147483647", "2147483648", "=", "x", "L", " ",
        "#", "9223372036854775807L", "9223372036854775808L"};

    private final Due due = new Due("AgainstModelTest");
    private final Random random;
    private MethodWarden warden;
    private PlainModel model;
    private int calls;
    private int run;

    private AgainstModelTest(long seed) {
        random = new Random(seed);
    }

    public static void main(String[] args) {
        // The seed is fixed, so that the same program always gives the same answers.
        AgainstModelTest test = new AgainstModelTest(args.length > 0 ? Long.parseLong(args[0]) : 20261115L);
        for (int k = 0; k < TEXTS && !test.due.isSpoilt(); k++) {
            test.run = k;
            test.readsAText();
        }
        for (int k = 0; k < RUNS && !test.due.isSpoilt(); k++) {
            test.run = k;
            test.makesARun();
        }
        test.due.finish();
    }

    private void fresh() {
        warden = new MethodWarden();
        model = new PlainModel();
        calls = 0;
    }

    private void readsAText() {
        fresh();
        String text = random.nextInt(3) == 0 ? heap() : spoilt(expression(4));
        define(0, text);
        for (int k = random.nextInt(6); k > 0; k--) {
            add(small());
        }
        if (random.nextBoolean()) {
            login(random.nextInt(5), roleSet());
        }
        ask(0);
    }

    private void makesARun() {
        fresh();
        for (int k = 0; k < 4; k++) {
            define(k, truth(2));
        }
        login(random.nextInt(4), roleSet());
        while (calls < CALLS) {
            step();
        }
    }

    private void step() {
        switch (random.nextInt(24)) {
            case 0: define(wild(8), spoilt(random.nextBoolean() ? truth(3) : expression(3))); break;
            case 1: senior(); break;
            case 2: login(wild(4) - 1, roleSet()); break;
            case 3: add(small()); add(small()); break;
            case 4: if (random.nextInt(3) == 0) { empty(); } break;
            case 5: case 6: guard(); break;
            case 7: case 8: rules(); break;
            case 9: case 10: case 11: target(); break;
            case 12: count(); break;
            case 13: ask(wild(8)); break;
            default: call(); break;
        }
    }

    // ---- calls, each on both

    private void same(String call, long got, long want) {
        calls++;
        // What an object answers after its last promised call is free.
        if (calls <= CALLS) {
            due.same("run " + run + ", call " + calls + ": " + call, got, want);
        }
    }

    private void same(String call, boolean got, boolean want) {
        same(call, got ? 1 : 0, want ? 1 : 0);
    }

    private void define(int slot, String text) {
        for (int k = 0; k < text.length(); k++) {
            char c = text.charAt(k);
            same("type(" + c + ")", warden.type(c), model.type(c));
        }
        same("define(" + slot + ") of '" + text + "'", warden.define(slot), model.define(slot));
    }

    private void senior() {
        int x = wild(16);
        int y = wild(16);
        same("senior(" + x + ", " + y + ")", warden.senior(x, y), model.senior(x, y));
        same("context()", warden.context(), model.context());
    }

    private void login(int user, int roles) {
        same("login(" + user + ", " + roles + ")", warden.login(user, roles), model.login(user, roles));
        same("context()", warden.context(), model.context());
    }

    private void add(int v) {
        same("add(" + v + ")", warden.add(v), model.add(v));
    }

    private void empty() {
        warden.empty();
        model.empty();
        calls++;
    }

    private void guard() {
        int place = wild(10);
        int kind = random.nextInt(3) == 0 ? 0 : wild(5);
        int x = kind == 3 ? roleSet() : wild(8);
        same("guard(" + place + ", " + kind + ", " + x + ")", warden.guard(place, kind, x), model.guard(place, kind, x));
    }

    private void rules() {
        int m = wild(8);
        int in = random.nextInt(6) - 1;
        int check = random.nextInt(8) - 4 < 0 ? -1 : wild(8);
        int out = random.nextInt(8) - 4 < 0 ? -1 : wild(8);
        same("rules(" + m + ", " + in + ", " + check + ", " + out + ")",
                warden.rules(m, in, check, out), model.rules(m, in, check, out));
    }

    private void target() {
        int m = wild(8);
        int how = wild(7);
        int k = how >= 5 ? wild(8) : how == 4 ? random.nextInt(1002) - 1 : number();
        int extra = roleSet();
        same("target(" + m + ", " + how + ", " + k + ", " + extra + ")",
                warden.target(m, how, k, extra), model.target(m, how, k, extra));
    }

    private void call() {
        int m = wild(8);
        int a = number();
        long b = longNumber();
        same("call(" + m + ", " + a + ", " + b + ")", warden.call(m, a, b), model.call(m, a, b));
        same("kind()", warden.kind(), model.kind());
        same("number()", warden.number(), model.number());
        int k = wild(5);
        same("itemAt(" + k + ")", warden.itemAt(k), model.itemAt(k));
        count();
        same("context()", warden.context(), model.context());
    }

    private void count() {
        int m = wild(8);
        int end = wild(6);
        same("count(" + m + ", " + end + ")", warden.count(m, end), model.count(m, end));
    }

    private void ask(int slot) {
        int a = number();
        long b = longNumber();
        same("ask(" + slot + ", " + a + ", " + b + ")", warden.ask(slot, a, b), model.ask(slot, a, b));
        same("asked()", warden.asked(), model.asked());
    }

    // ---- what the calls are made with

    /** Mostly 0 .. below, now and then one beyond on either side. */
    private int wild(int below) {
        return random.nextInt(20) == 0 ? random.nextBoolean() ? -1 : below : random.nextInt(below);
    }

    private int small() {
        return random.nextInt(12) == 0 ? number() : random.nextInt(9) - 3;
    }

    private int number() {
        switch (random.nextInt(8)) {
            case 0: return Integer.MAX_VALUE;
            case 1: return Integer.MIN_VALUE;
            case 2: return random.nextInt();
            default: return random.nextInt(9) - 3;
        }
    }

    private long longNumber() {
        switch (random.nextInt(8)) {
            case 0: return Long.MAX_VALUE;
            case 1: return Long.MIN_VALUE;
            case 2: return random.nextLong();
            default: return random.nextInt(9) - 3;
        }
    }

    private int roleSet() {
        if (random.nextInt(25) == 0) {
            return random.nextBoolean() ? -1 : 65536;
        }
        return random.nextInt(65536) & random.nextInt(65536) & random.nextInt(65536);
    }

    private String pick(String... texts) {
        return texts[random.nextInt(texts.length)];
    }

    private String heap() {
        StringBuilder text = new StringBuilder();
        for (int k = random.nextInt(14); k >= 0; k--) {
            text.append(pick(PIECES)).append(random.nextInt(3) == 0 ? " " : "");
        }
        return text.toString();
    }

    /** Mostly the text itself, now and then with a piece put in or a character taken out. */
    private String spoilt(String text) {
        int at = random.nextInt(text.length() + 1);
        switch (random.nextInt(10)) {
            case 0: return text.substring(0, at) + pick(PIECES) + text.substring(at);
            case 1: return at == text.length() ? text : text.substring(0, at) + text.substring(at + 1);
            case 2: return text.substring(0, at);
            default: return text;
        }
    }

    private String expression(int depth) {
        switch (random.nextInt(5)) {
            case 0: return truth(depth);
            case 1: return list(depth);
            case 2: return anything(depth);
            default: return sum(depth);
        }
    }

    private String truth(int depth) {
        if (depth <= 0) {
            return pick("true", "false", "it>0", "it<3", "me==1", "role(1)", "role(a)", "a>b", "it!=a", "ret!=null", "it%2==0");
        }
        switch (random.nextInt(9)) {
            case 0: return truth(depth - 1) + pick("|", " & ", "&", " | ", "==", "!=") + truth(depth - 1);
            case 1: return sum(depth - 1) + pick("<", "<=", ">", ">=", "==", "!=") + sum(depth - 1);
            case 2: return "!" + truth(0);
            case 3: return "role(" + sum(depth - 2) + ")";
            case 4: return list(depth - 1) + pick("==", "!=") + list(depth - 1);
            case 5: return list(depth - 1) + pick(".^[", ".$[") + truth(depth - 2) + "]" + pick("==", "!=") + pick("null", "it");
            case 6: return "(" + truth(depth - 1) + ")";
            case 7: return truth(0) + "?" + truth(depth - 1) + ":" + truth(depth - 1);
            default: return truth(0);
        }
    }

    private String sum(int depth) {
        if (depth <= 0) {
            return pick("a", "b", "it", "me", "0", "1", "2", "3L", "ret", "list[0]", "list.size", "2147483647", "null");
        }
        switch (random.nextInt(8)) {
            case 0: return "-" + sum(depth - 1);
            case 1: return "(" + sum(depth - 1) + ")";
            case 2: return list(depth - 1) + "[" + sum(depth - 1) + "]";
            case 3: return list(depth - 1) + pick(".size", "?.size");
            case 4: return list(depth - 1) + pick(".^[", ".$[") + truth(depth - 1) + "]";
            case 5: return sum(0) + "?:" + sum(depth - 1);
            default: return sum(depth - 1) + pick("+", "-", "*", "/", "%", " + ", " - ") + sum(depth - 1);
        }
    }

    private String list(int depth) {
        if (depth <= 0) {
            return pick("list", "list", "list", "ret");
        }
        return random.nextInt(3) == 0 ? list(0) : list(depth - 1) + ".?[" + truth(depth - 1) + "]";
    }

    private String anything(int depth) {
        if (depth <= 0) {
            return random.nextBoolean() ? sum(0) : truth(0);
        }
        switch (random.nextInt(5)) {
            case 0: return pick("-", "!") + anything(depth - 1);
            case 1: return "(" + anything(depth - 1) + ")";
            case 2: return anything(depth - 1) + "?" + anything(depth - 1) + ":" + anything(depth - 1);
            case 3: return anything(depth - 1) + "?:" + anything(depth - 1);
            default: return anything(depth - 1) + pick(SIGNS) + anything(depth - 1);
        }
    }
}
