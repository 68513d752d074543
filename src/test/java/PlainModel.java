import java.math.BigInteger;
import java.util.ArrayList;
import java.util.HashSet;
import java.util.LinkedHashSet;
import java.util.List;
import java.util.Set;
import java.util.regex.Matcher;
import java.util.regex.Pattern;

/**
 * The document once more, written in another way than the program so that the two do not share
 * their mistakes: the grammar is read off rules as they stand there, faults are found by keeping
 * every way in which the tokens so far could go on, and an ERROR is an exception.
 */
final class PlainModel {
    private static final Pattern TOKEN = Pattern.compile(
            "[0-9]+L?|[a-z]+|\\.[?^$]\\[|==|!=|<=|>=|\\?:|\\?\\.|[\\[\\]()<>:?|&+*/%!.-]|.");
    private static final Set<String> WORDS = Set.of(
            "true", "false", "null", "me", "a", "b", "it", "ret", "list", "role", "size");
    private static final Set<String> NO_PARTS = Set.of("(", ")", "]", ":", ".", "?.");
    private static final String[][] GRAMMAR = {
        {"START", "EXPRESSION"},
        {"EXPRESSION", "OR"}, {"EXPRESSION", "OR", "?", "EXPRESSION", ":", "EXPRESSION"},
        {"EXPRESSION", "OR", "?:", "EXPRESSION"},
        {"OR", "AND"}, {"OR", "OR", "|", "AND"},
        {"AND", "EQUAL"}, {"AND", "AND", "&", "EQUAL"},
        {"EQUAL", "ORDER"}, {"EQUAL", "EQUAL", "==", "ORDER"}, {"EQUAL", "EQUAL", "!=", "ORDER"},
        {"ORDER", "SUM"}, {"ORDER", "ORDER", "<", "SUM"}, {"ORDER", "ORDER", "<=", "SUM"},
        {"ORDER", "ORDER", ">", "SUM"}, {"ORDER", "ORDER", ">=", "SUM"},
        {"SUM", "TERM"}, {"SUM", "SUM", "+", "TERM"}, {"SUM", "SUM", "-", "TERM"},
        {"TERM", "PREFIX"}, {"TERM", "TERM", "*", "PREFIX"}, {"TERM", "TERM", "/", "PREFIX"},
        {"TERM", "TERM", "%", "PREFIX"},
        {"PREFIX", "-", "PREFIX"}, {"PREFIX", "!", "PREFIX"}, {"PREFIX", "POSTFIX"},
        {"POSTFIX", "BASE"}, {"POSTFIX", "POSTFIX", "[", "EXPRESSION", "]"},
        {"POSTFIX", "POSTFIX", ".?[", "EXPRESSION", "]"}, {"POSTFIX", "POSTFIX", ".^[", "EXPRESSION", "]"},
        {"POSTFIX", "POSTFIX", ".$[", "EXPRESSION", "]"}, {"POSTFIX", "POSTFIX", ".", "size"},
        {"POSTFIX", "POSTFIX", "?.", "size"},
        {"BASE", "number"}, {"BASE", "true"}, {"BASE", "false"}, {"BASE", "null"}, {"BASE", "me"},
        {"BASE", "a"}, {"BASE", "b"}, {"BASE", "it"}, {"BASE", "ret"}, {"BASE", "list"},
        {"BASE", "(", "EXPRESSION", ")"}, {"BASE", "role", "(", "EXPRESSION", ")"},
    };
    private static final Set<String> NAMES = names();

    private String text = "";
    private final Tree[] slots = new Tree[8];
    private final boolean[][] includes = new boolean[16][16];
    private Integer user;
    private Set<Integer> roles = new HashSet<>();
    private List<Integer> list = new ArrayList<>();
    private final int[] guardKinds = new int[10];
    private final int[] guardXs = new int[10];
    private final int[][] methodRules = new int[8][];
    private final int[][] targets = new int[8][];
    private final int[][] counts = new int[8][6];
    private int latestEnd = -1;
    private int latestThrown;
    private Object latestBack;
    private long latestAsked;

    PlainModel() {
        for (int m = 0; m < 8; m++) {
            methodRules[m] = new int[] {-1, -1, -1};
            targets[m] = new int[] {0, 0, 0};
        }
    }

    private static Set<String> names() {
        Set<String> names = new HashSet<>();
        for (String[] rule : GRAMMAR) {
            names.add(rule[0]);
        }
        return names;
    }

    // ---- the face

    boolean type(char c) {
        if (c < 32 || c > 126 || text.length() == 48) {
            return false;
        }
        text += c;
        return true;
    }

    int define(int slot) {
        if (slot < 0 || slot > 7) {
            return -2;
        }
        String typed = text;
        text = "";
        List<Token> tokens = cut(typed);
        int fault = fault(tokens, typed.length());
        if (fault == -1) {
            slots[slot] = new TreeMaker(tokens).expression();
        }
        return fault;
    }

    boolean senior(int x, int y) {
        if (x < 0 || x > 15 || y < 0 || y > 15 || x == y || includes[x][y] || leadsTo(y, x, 0)) {
            return false;
        }
        includes[x][y] = true;
        return true;
    }

    boolean login(int who, int set) {
        if (who == -1) {
            user = null;
            return true;
        }
        if (who < 0 || who > 999 || set < 0 || set > 65535) {
            return false;
        }
        user = who;
        roles = members(set);
        return true;
    }

    int context() {
        if (user == null) {
            return -1;
        }
        int set = 0;
        for (int role = 0; role < 16; role++) {
            set += reachable(role) ? 1 << role : 0;
        }
        return user * 65536 + set;
    }

    boolean add(int v) {
        return list.size() < 5 && list.add(v);
    }

    void empty() {
        list = new ArrayList<>();
    }

    boolean guard(int place, int kind, int x) {
        if (place < 0 || place > 9 || kind < 0 || kind > 4) {
            return false;
        }
        if (kind == 3 && (x < 0 || x > 65535) || kind == 4 && !filled(x)) {
            return false;
        }
        int there = guardKinds[place];
        if (kind == 0 && there == 0 || kind != 0 && there != 0 && there != kind) {
            return false;
        }
        guardKinds[place] = kind;
        guardXs[place] = x;
        return true;
    }

    boolean rules(int m, int in, int check, int out) {
        if (m < 0 || m > 7) {
            return false;
        }
        for (int slot : new int[] {in, check, out}) {
            if (slot != -1 && !filled(slot)) {
                return false;
            }
        }
        methodRules[m] = new int[] {in, check, out};
        return true;
    }

    boolean target(int m, int how, int k, int extra) {
        boolean good = m >= 0 && m <= 7 && how >= 0 && how <= 6 && extra >= 0 && extra <= 65535;
        if (!good || how == 4 && (k < 0 || k > 999) || how >= 5 && (k < 0 || k > 7)) {
            return false;
        }
        targets[m] = new int[] {how, k, extra};
        return true;
    }

    int call(int m, int a, long b) {
        if (m < 0 || m > 7) {
            return -1;
        }
        Outcome outcome = call(m, a, b, list, 0);
        latestEnd = outcome.end;
        latestThrown = outcome.thrown;
        latestBack = outcome.back;
        return outcome.end;
    }

    int kind() {
        if (latestEnd != 0) {
            return -1;
        }
        return latestBack == null ? 0 : latestBack instanceof Integer ? 1 : 2;
    }

    int number() {
        if (latestEnd == 1) {
            return latestThrown;
        }
        if (latestEnd != 0 || latestBack == null) {
            return 0;
        }
        return latestBack instanceof Integer i ? i : items(latestBack).size();
    }

    int itemAt(int k) {
        if (kind() != 2 || k < 0 || k >= items(latestBack).size()) {
            return 0;
        }
        return items(latestBack).get(k);
    }

    int count(int m, int end) {
        return m < 0 || m > 7 || end < 0 || end > 5 ? 0 : counts[m][end];
    }

    int ask(int slot, int a, long b) {
        if (!filled(slot)) {
            return -2;
        }
        latestAsked = 0;
        Object answer;
        try {
            answer = worth(slots[slot], new Scene(a, b, list, false, null, null));
        } catch (Fault fault) {
            return -1;
        }
        if (answer == null) {
            return 0;
        }
        if (answer instanceof Boolean truth) {
            latestAsked = truth ? 1 : 0;
            return 1;
        }
        latestAsked = answer instanceof Number n ? n.longValue() : items(answer).size();
        return answer instanceof Integer ? 2 : answer instanceof Long ? 3 : 4;
    }

    long asked() {
        return latestAsked;
    }

    // ---- texts

    private record Token(String text, int start) {
        String name() {
            return Character.isDigit(text.charAt(0)) ? "number" : text;
        }

        boolean isWrong() {
            if (text.matches("[0-9]+")) {
                return new BigInteger(text).compareTo(BigInteger.valueOf(Integer.MAX_VALUE)) > 0;
            }
            if (text.matches("[0-9]+L")) {
                BigInteger number = new BigInteger(text.substring(0, text.length() - 1));
                return number.compareTo(BigInteger.valueOf(Long.MAX_VALUE)) > 0;
            }
            if (text.matches("[a-z]+")) {
                return !WORDS.contains(text);
            }
            return !text.matches("\\.[?^$]\\[|==|!=|<=|>=|\\?:|\\?\\.|[\\[\\]()<>:?|&+*/%!.-]");
        }
    }

    private static List<Token> cut(String typed) {
        List<Token> tokens = new ArrayList<>();
        Matcher matcher = TOKEN.matcher(typed);
        int from = 0;
        while (from < typed.length()) {
            if (typed.charAt(from) == ' ') {
                from++;
                continue;
            }
            matcher.find(from);
            tokens.add(new Token(matcher.group(), matcher.start()));
            from = matcher.end();
        }
        return tokens;
    }

    /** A rule of the grammar with a dot in it, and the number of tokens before it began. */
    private record Way(int rule, int dot, int begun) {
        String next() {
            return dot < GRAMMAR[rule].length ? GRAMMAR[rule][dot] : null;
        }

        Way on() {
            return new Way(rule, dot + 1, begun);
        }
    }

    private static int fault(List<Token> tokens, int length) {
        List<Set<Way>> ways = new ArrayList<>();
        Set<Way> beginning = new LinkedHashSet<>();
        beginning.add(new Way(0, 1, 0));
        ways.add(closed(beginning, ways, 0));
        int parts = 0;
        for (int k = 0; k < tokens.size(); k++) {
            Token token = tokens.get(k);
            parts += NO_PARTS.contains(token.text) ? 0 : 1;
            Set<Way> after = new LinkedHashSet<>();
            for (Way way : ways.get(k)) {
                if (token.name().equals(way.next())) {
                    after.add(way.on());
                }
            }
            if (token.isWrong() || parts > 20 || after.isEmpty()) {
                return token.start;
            }
            ways.add(closed(after, ways, k + 1));
        }
        return ways.get(tokens.size()).contains(new Way(0, 2, 0)) ? -1 : length;
    }

    private static Set<Way> closed(Set<Way> ways, List<Set<Way>> before, int here) {
        List<Way> waiting = new ArrayList<>(ways);
        for (int k = 0; k < waiting.size(); k++) {
            Way way = waiting.get(k);
            List<Way> found = new ArrayList<>();
            String next = way.next();
            if (next == null) {
                // No rule of this grammar is empty, so what waits for it stands in an earlier set.
                for (Way outer : before.get(way.begun)) {
                    if (GRAMMAR[way.rule][0].equals(outer.next())) {
                        found.add(outer.on());
                    }
                }
            } else if (NAMES.contains(next)) {
                for (int rule = 0; rule < GRAMMAR.length; rule++) {
                    if (GRAMMAR[rule][0].equals(next)) {
                        found.add(new Way(rule, 1, here));
                    }
                }
            }
            for (Way one : found) {
                if (ways.add(one)) {
                    waiting.add(one);
                }
            }
        }
        return ways;
    }

    private record Tree(String name, Object number, List<Tree> children) {
    }

    /** Makes the tree of tokens that are known to be an expression, a method for each rule. */
    private static final class TreeMaker {
        private static final String[][] LEVELS = {
            {"|"}, {"&"}, {"==", "!="}, {"<", "<=", ">", ">="}, {"+", "-"}, {"*", "/", "%"}};
        private final List<Token> tokens;
        private int at;

        TreeMaker(List<Token> tokens) {
            this.tokens = tokens;
        }

        private String peek() {
            return at < tokens.size() ? tokens.get(at).text : "";
        }

        private static Tree tree(String name, Tree... children) {
            return new Tree(name, null, List.of(children));
        }

        Tree expression() {
            Tree x = between(0);
            if (peek().equals("?:")) {
                at++;
                return tree("?:", x, expression());
            }
            if (peek().equals("?")) {
                at++;
                Tree y = expression();
                at++;
                return tree("?", x, y, expression());
            }
            return x;
        }

        private Tree between(int level) {
            if (level == LEVELS.length) {
                return prefix();
            }
            Tree x = between(level + 1);
            while (List.of(LEVELS[level]).contains(peek())) {
                String sign = peek();
                at++;
                x = tree(sign, x, between(level + 1));
            }
            return x;
        }

        private Tree prefix() {
            if (peek().equals("-") || peek().equals("!")) {
                String sign = peek();
                at++;
                return tree("prefix " + sign, prefix());
            }
            return postfix();
        }

        private Tree postfix() {
            Tree x = base();
            while (true) {
                String sign = peek();
                if (sign.equals(".") || sign.equals("?.")) {
                    at += 2;
                    x = tree(sign, x);
                } else if (sign.endsWith("[")) {
                    at++;
                    x = tree(sign, x, expression());
                    at++;
                } else {
                    return x;
                }
            }
        }

        private Tree base() {
            String word = peek();
            at++;
            if (Character.isDigit(word.charAt(0))) {
                boolean isLong = word.endsWith("L");
                Object number = isLong ? (Object) Long.valueOf(word.substring(0, word.length() - 1)) : Integer.valueOf(word);
                return new Tree("number", number, List.of());
            }
            if (word.equals("(")) {
                Tree x = expression();
                at++;
                return x;
            }
            if (word.equals("role")) {
                at++;
                Tree x = expression();
                at++;
                return tree("role", x);
            }
            return tree(word);
        }
    }

    // ---- values: null is NOTHING, and an ERROR is thrown

    private static final class Fault extends RuntimeException {
        private static final long serialVersionUID = 1L;

        Fault() {
            super(null, null, false, false);
        }
    }

    private record Scene(int a, long b, List<Integer> list, boolean retKnown, Object ret, Integer it) {
        Scene lookingAt(Integer item) {
            return new Scene(a, b, list, retKnown, ret, item);
        }
    }

    private static boolean truth(Object value) {
        if (value instanceof Boolean truth) {
            return truth;
        }
        throw new Fault();
    }

    private static Number numberOf(Object value) {
        if (value instanceof Number number) {
            return number;
        }
        throw new Fault();
    }

    private static List<Integer> items(Object value) {
        if (!(value instanceof List<?> some)) {
            throw new Fault();
        }
        List<Integer> items = new ArrayList<>();
        for (Object one : some) {
            items.add((Integer) one);
        }
        return items;
    }

    private static <T> T orFault(T value) {
        if (value == null) {
            throw new Fault();
        }
        return value;
    }

    private Object worth(Tree tree, Scene scene) {
        switch (tree.name) {
            case "number": return tree.number;
            case "true": return true;
            case "false": return false;
            case "null": return null;
            case "me": return user;
            case "a": return scene.a;
            case "b": return scene.b;
            case "list": return scene.list;
            case "it": return orFault(scene.it);
            case "ret":
                if (!scene.retKnown) {
                    throw new Fault();
                }
                return scene.ret;
            default: break;
        }
        Object x = worth(tree.children.get(0), scene);
        switch (tree.name) {
            case "|": return truth(x) || truth(worth(tree.children.get(1), scene));
            case "&": return truth(x) && truth(worth(tree.children.get(1), scene));
            case "?": return worth(tree.children.get(truth(x) ? 1 : 2), scene);
            case "?:": return x == null ? worth(tree.children.get(1), scene) : x;
            case "prefix !": return !truth(x);
            case "prefix -":
                numberOf(x);
                return x instanceof Integer i ? (Object) (-i) : (Object) (-numberOf(x).longValue());
            case ".": return items(x).size();
            case "?.": return x == null ? null : (Object) items(x).size();
            case "role": {
                long role = numberOf(x).longValue();
                return role >= 0 && role <= 15 && reachable((int) role);
            }
            case ".?[": return filtered(tree.children.get(1), scene, items(x));
            case ".^[": return found(tree.children.get(1), scene, items(x), 1);
            case ".$[": return found(tree.children.get(1), scene, items(x), -1);
            default: return ofTwo(tree.name, x, worth(tree.children.get(1), scene));
        }
    }

    private List<Integer> filtered(Tree test, Scene scene, List<Integer> from) {
        List<Integer> kept = new ArrayList<>();
        for (Integer item : from) {
            if (truth(worth(test, scene.lookingAt(item)))) {
                kept.add(item);
            }
        }
        return kept;
    }

    private Integer found(Tree test, Scene scene, List<Integer> from, int step) {
        for (int k = step > 0 ? 0 : from.size() - 1; k >= 0 && k < from.size(); k += step) {
            if (truth(worth(test, scene.lookingAt(from.get(k))))) {
                return from.get(k);
            }
        }
        return null;
    }

    private static boolean same(Object x, Object y) {
        if (x instanceof Number n && y instanceof Number o) {
            return n.longValue() == o.longValue();
        }
        return x == null ? y == null : x.equals(y);
    }

    private static Object ofTwo(String sign, Object x, Object y) {
        switch (sign) {
            case "==": return same(x, y);
            case "!=": return !same(x, y);
            case "[": {
                List<Integer> from = items(x);
                long place = numberOf(y).longValue();
                return place < 0 || place >= from.size() ? orFault(null) : from.get((int) place);
            }
            default: break;
        }
        BigInteger n = BigInteger.valueOf(numberOf(x).longValue());
        BigInteger o = BigInteger.valueOf(numberOf(y).longValue());
        switch (sign) {
            case "<": return n.compareTo(o) < 0;
            case "<=": return n.compareTo(o) <= 0;
            case ">": return n.compareTo(o) > 0;
            case ">=": return n.compareTo(o) >= 0;
            default: break;
        }
        BigInteger result = reckoned(sign, n, o);
        // Narrowing keeps the low bits, which is how Java's own arithmetic wraps.
        return x instanceof Integer && y instanceof Integer ? (Object) result.intValue() : (Object) result.longValue();
    }

    private static BigInteger reckoned(String sign, BigInteger n, BigInteger o) {
        switch (sign) {
            case "+": return n.add(o);
            case "-": return n.subtract(o);
            case "*": return n.multiply(o);
            default: break;
        }
        if (o.signum() == 0) {
            throw new Fault();
        }
        return sign.equals("/") ? n.divide(o) : n.remainder(o);
    }

    // ---- roles and calls

    private boolean filled(int slot) {
        return slot >= 0 && slot <= 7 && slots[slot] != null;
    }

    private static Set<Integer> members(int set) {
        Set<Integer> members = new HashSet<>();
        for (int role = 0; role < 16; role++) {
            if ((set & 1 << role) != 0) {
                members.add(role);
            }
        }
        return members;
    }

    private boolean leadsTo(int from, int to, int steps) {
        if (includes[from][to]) {
            return true;
        }
        for (int between = 0; between < 16 && steps < 16; between++) {
            if (includes[from][between] && leadsTo(between, to, steps + 1)) {
                return true;
            }
        }
        return false;
    }

    private boolean reachable(int role) {
        if (user == null) {
            return false;
        }
        for (int own : roles) {
            if (own == role || leadsTo(own, role, 0)) {
                return true;
            }
        }
        return false;
    }

    private record Outcome(int end, int thrown, Object back) {
    }

    private Outcome call(int m, int a, long b, List<Integer> given, int within) {
        Integer userBefore = user;
        Set<Integer> rolesBefore = roles;
        Outcome outcome = steps(m, a, b, given, within, userBefore, rolesBefore);
        user = userBefore;
        roles = rolesBefore;
        counts[m][outcome.end]++;
        return outcome;
    }

    private Outcome steps(int m, int a, long b, List<Integer> given, int within, Integer userBefore, Set<Integer> rolesBefore) {
        int place = guardKinds[m] != 0 ? m : m < 4 ? 8 : 9;
        int kind = guardKinds[place];
        int in = methodRules[m][0];
        int check = methodRules[m][1];
        int out = methodRules[m][2];
        if (user == null && (kind > 1 || in >= 0 || check >= 0 || out >= 0)) {
            return new Outcome(3, 0, null);
        }
        List<Integer> received = given;
        try {
            Scene before = new Scene(a, b, given, false, null, null);
            received = in < 0 ? given : filtered(slots[in], before, given);
            Scene filteredIn = new Scene(a, b, received, false, null, null);
            if (!opens(kind, guardXs[place], filteredIn)) {
                return new Outcome(2, 0, null);
            }
        } catch (Fault fault) {
            return new Outcome(2, 0, null);
        }
        counts[m][5]++;
        Outcome worked = work(targets[m], a, b, received, within);
        user = userBefore;
        roles = rolesBefore;
        if (worked.end != 0) {
            return worked;
        }
        try {
            Scene after = new Scene(a, b, received, true, worked.back, null);
            if (check >= 0 && !truth(worth(slots[check], after))) {
                return new Outcome(4, 0, null);
            }
            if (out < 0 || worked.back == null) {
                return worked;
            }
            return new Outcome(0, 0, filtered(slots[out], after, items(worked.back)));
        } catch (Fault fault) {
            return new Outcome(4, 0, null);
        }
    }

    private boolean opens(int kind, int x, Scene scene) {
        switch (kind) {
            case 2: return false;
            case 3: {
                for (int role : members(x)) {
                    if (reachable(role)) {
                        return true;
                    }
                }
                return false;
            }
            case 4: return truth(worth(slots[x], scene));
            default: return true;
        }
    }

    private Outcome work(int[] target, int a, long b, List<Integer> received, int within) {
        int k = target[1];
        if (user != null) {
            roles = new HashSet<>(roles);
            roles.addAll(members(target[2]));
        }
        switch (target[0]) {
            case 0: return new Outcome(0, 0, null);
            case 1: return new Outcome(0, 0, a + k);
            case 2: {
                List<Integer> raised = new ArrayList<>();
                for (int item : received) {
                    raised.add(item + k);
                }
                return new Outcome(0, 0, raised);
            }
            case 3: return new Outcome(1, k, null);
            case 4:
                user = k;
                roles = members(65535);
                return new Outcome(0, 0, new ArrayList<>(received));
            case 6:
                user = null;
                break;
            default: break;
        }
        return within + 1 == 8 ? new Outcome(1, -1, null) : call(k, a, b, received, within + 1);
    }
}
