/**
 * Watches over the calls of eight methods: roles, and short expressions over the caller, the
 * arguments and what comes back, say which calls are let in, which answers are let out, and which
 * items of a list go in and come out.
 *
 * <p>All rows are made in the constructors and used again: no call makes an object.
 */
public final class MethodWarden {
    private static final int SLOTS = 8;
    private static final int METHODS = 8;
    private static final int PLACES = 10;
    private static final int MOST_CHARACTERS = 48;
    private static final int MOST_PARTS = 20;
    private static final int MOST_ITEMS = 5;
    private static final int MOST_OPEN_CALLS = 8;
    private static final int ROLE_COUNT = 16;
    private static final int ALL_ROLES = 65535;
    private static final int MOST_USER = 999;
    private static final int NOBODY = -1;
    private static final int NO_SLOT = -1;

    private static final int READ_WELL = -1;
    private static final int REFUSED_DEFINE = -2;
    private static final int REFUSED_ASK = -2;
    private static final int REFUSED_CALL = -1;

    private final Text text;
    private final Reader reader;
    private final Expression[] expressions;
    // What is read goes here first, so that a text with a fault leaves the slot as it is.
    private Expression spare;
    private final Context context;
    private final Items list;
    private final Worker worker;
    private final Gate gate;
    private long latestAsked;

    public MethodWarden() {
        text = new Text();
        reader = new Reader();
        expressions = new Expression[SLOTS];
        for (int slot = 0; slot < SLOTS; slot++) {
            expressions[slot] = new Expression();
        }
        spare = new Expression();
        context = new Context();
        list = new Items();
        worker = new Worker(context, list, spare);
        gate = new Gate(context, worker, expressions);
    }

    public boolean type(char c) {
        return text.append(c);
    }

    public int define(int slot) {
        if (!isSlot(slot)) {
            return REFUSED_DEFINE;
        }
        int fault = reader.read(text, spare);
        text.clear();
        if (fault == READ_WELL) {
            Expression earlier = expressions[slot];
            expressions[slot] = spare;
            spare = earlier;
        }
        return fault;
    }

    public boolean senior(int x, int y) {
        return isRole(x) && isRole(y) && context.include(x, y);
    }

    public boolean login(int user, int roles) {
        if (user == NOBODY) {
            context.leave();
            return true;
        }
        if (!isUser(user) || !isRoleSet(roles)) {
            return false;
        }
        context.become(user, roles);
        return true;
    }

    public int context() {
        return context.isNobody() ? -1 : context.user * (ALL_ROLES + 1) + context.reachable();
    }

    public boolean add(int v) {
        return list.append(v);
    }

    public void empty() {
        list.clear();
    }

    public boolean guard(int place, int kind, int x) {
        if (place < 0 || place >= PLACES || !isGuard(kind, x)) {
            return false;
        }
        return gate.guards[place].turnInto(kind, x);
    }

    public boolean rules(int m, int in, int check, int out) {
        if (!isMethod(m) || !isRule(in) || !isRule(check) || !isRule(out)) {
            return false;
        }
        gate.methods[m].setRules(in, check, out);
        return true;
    }

    public boolean target(int m, int how, int k, int extra) {
        if (!isMethod(m) || !isTarget(how, k) || !isRoleSet(extra)) {
            return false;
        }
        gate.methods[m].setTarget(how, k, extra);
        return true;
    }

    public int call(int m, int a, long b) {
        if (!isMethod(m)) {
            return REFUSED_CALL;
        }
        gate.prepare(a, b, list);
        return gate.run(m, 0);
    }

    public int kind() {
        return gate.latestKind();
    }

    public int number() {
        return gate.latestNumber();
    }

    public int itemAt(int k) {
        return gate.latestItem(k);
    }

    public int count(int m, int end) {
        return isMethod(m) ? gate.methods[m].timesOf(end) : 0;
    }

    public int ask(int slot, int a, long b) {
        if (!hasExpression(slot)) {
            return REFUSED_ASK;
        }
        worker.setArguments(a, b);
        worker.setLists(list, null);
        Value answer = worker.workOut(expressions[slot]);
        latestAsked = answer.asLong();
        return answer.sort;
    }

    public long asked() {
        return latestAsked;
    }

    private static boolean isSlot(int slot) {
        return slot >= 0 && slot < SLOTS;
    }

    private static boolean isMethod(int m) {
        return m >= 0 && m < METHODS;
    }

    private static boolean isRole(int role) {
        return role >= 0 && role < ROLE_COUNT;
    }

    private static boolean isRoleSet(int roles) {
        return roles >= 0 && roles <= ALL_ROLES;
    }

    private static boolean isUser(int user) {
        return user >= 0 && user <= MOST_USER;
    }

    private boolean hasExpression(int slot) {
        return isSlot(slot) && expressions[slot].isThere();
    }

    private boolean isRule(int slot) {
        return slot == NO_SLOT || hasExpression(slot);
    }

    private boolean isGuard(int kind, int x) {
        switch (kind) {
            case Guard.NONE:
            case Guard.OPEN:
            case Guard.SHUT:
                return true;
            case Guard.ROLES:
                return isRoleSet(x);
            case Guard.EXPRESSION:
                return hasExpression(x);
            default:
                return false;
        }
    }

    private static boolean isTarget(int how, int k) {
        switch (how) {
            case Method.NOTHING:
            case Method.SUM:
            case Method.RAISED_LIST:
            case Method.THROW:
                return true;
            case Method.OTHER_USER:
                return isUser(k);
            case Method.CALL_ON:
            case Method.CALL_AS_NOBODY:
                return isMethod(k);
            default:
                return false;
        }
    }

    /** The sorts of tokens; those that stand in an expression are the sorts of its parts too. */
    private static final class Token {
        static final int NONE = 0;
        static final int WRONG = 1;
        static final int INT = 2;
        static final int LONG = 3;
        static final int TRUE = 4;
        static final int FALSE = 5;
        static final int NULL = 6;
        static final int ME = 7;
        static final int A = 8;
        static final int B = 9;
        static final int IT = 10;
        static final int RET = 11;
        static final int LIST = 12;
        static final int ROLE = 13;
        static final int SIZE = 14;
        static final int ROUND_OPEN = 15;
        static final int ROUND_CLOSE = 16;
        static final int INDEX = 17;
        static final int SQUARE_CLOSE = 18;
        static final int COLON = 19;
        static final int QUESTION = 20;
        static final int OR = 21;
        static final int AND = 22;
        static final int SAME = 23;
        static final int DIFFERENT = 24;
        static final int LESS = 25;
        static final int AT_MOST = 26;
        static final int MORE = 27;
        static final int AT_LEAST = 28;
        static final int PLUS = 29;
        static final int MINUS = 30;
        static final int TIMES = 31;
        static final int OVER = 32;
        static final int REMAINDER = 33;
        static final int NOT = 34;
        static final int DOT = 35;
        static final int SAFE_DOT = 36;
        static final int IF_NOTHING = 37;
        static final int ALL_OF = 38;
        static final int FIRST_OF = 39;
        static final int LAST_OF = 40;
        // No token is cut as one of these: the reader tells them from where a token stands.
        static final int NEGATE = 41;
        static final int CHOOSE = 42;
        static final int SAFE_SIZE = 43;

        static final int RANK_NONE = 0;
        static final int RANK_CHOICE = 1;
        static final int RANK_OR = 2;
        static final int RANK_AND = 3;
        static final int RANK_EQUAL = 4;
        static final int RANK_ORDER = 5;
        static final int RANK_SUM = 6;
        static final int RANK_TERM = 7;
        static final int RANK_PREFIX = 8;

        static boolean isPart(int token) {
            switch (token) {
                case ROUND_OPEN:
                case ROUND_CLOSE:
                case SQUARE_CLOSE:
                case COLON:
                case DOT:
                case SAFE_DOT:
                    return false;
                default:
                    return true;
            }
        }

        /** The sorts INT to LIST are numbered in one row for this. */
        static boolean isLeaf(int token) {
            return token >= INT && token <= LIST;
        }

        static boolean opensSquare(int token) {
            return token == INDEX || token == ALL_OF || token == FIRST_OF || token == LAST_OF;
        }

        static boolean isOfOne(int sort) {
            switch (sort) {
                case NEGATE:
                case NOT:
                case ROLE:
                case SIZE:
                case SAFE_SIZE:
                    return true;
                default:
                    return false;
            }
        }

        /** How tightly it binds; brackets, and a ? that waits for its colon, hold all within. */
        static int rankOf(int sort) {
            switch (sort) {
                case CHOOSE:
                case IF_NOTHING:
                    return RANK_CHOICE;
                case OR:
                    return RANK_OR;
                case AND:
                    return RANK_AND;
                case SAME:
                case DIFFERENT:
                    return RANK_EQUAL;
                case LESS:
                case AT_MOST:
                case MORE:
                case AT_LEAST:
                    return RANK_ORDER;
                case PLUS:
                case MINUS:
                    return RANK_SUM;
                case TIMES:
                case OVER:
                case REMAINDER:
                    return RANK_TERM;
                case NEGATE:
                case NOT:
                    return RANK_PREFIX;
                default:
                    return RANK_NONE;
            }
        }
    }

    /** The typed characters, and the token that was cut from them last. */
    private static final class Text {
        private static final int FIRST_CODE = 32;
        private static final int LAST_CODE = 126;
        private static final int LONG_WORD = 4;
        private static final int MOST_INT = 2147483647;
        private static final long MOST_LONG = 9223372036854775807L;

        private final char[] characters = new char[MOST_CHARACTERS];
        private int length;
        private int at;
        private int token;
        private int start;
        private long number;

        boolean append(char c) {
            if (c < FIRST_CODE || c > LAST_CODE || length >= MOST_CHARACTERS) {
                return false;
            }
            characters[length] = c;
            length++;
            return true;
        }

        void clear() {
            length = 0;
        }

        void rewind() {
            at = 0;
        }

        void cutNext() {
            while (at < length && characters[at] == ' ') {
                at++;
            }
            start = at;
            number = 0;
            if (at >= length) {
                token = Token.NONE;
            } else if (isDigit(characters[at])) {
                token = cutNumber();
            } else if (isSmallLetter(characters[at])) {
                token = cutWord();
            } else {
                token = cutSign();
            }
        }

        private static boolean isDigit(char c) {
            return c >= '0' && c <= '9';
        }

        private static boolean isSmallLetter(char c) {
            return c >= 'a' && c <= 'z';
        }

        private int cutNumber() {
            boolean fits = true;
            while (at < length && isDigit(characters[at])) {
                int digit = characters[at] - '0';
                // Looked at before the step, for what has wrapped can no longer be told.
                if (number > (MOST_LONG - digit) / 10) {
                    fits = false;
                } else {
                    number = number * 10 + digit;
                }
                at++;
            }
            if (passes('L')) {
                return fits ? Token.LONG : Token.WRONG;
            }
            return fits && number <= MOST_INT ? Token.INT : Token.WRONG;
        }

        private int cutWord() {
            while (at < length && isSmallLetter(characters[at])) {
                at++;
            }
            return at - start < LONG_WORD ? shortWord() : longWord();
        }

        private int shortWord() {
            if (reads("a")) {
                return Token.A;
            }
            if (reads("b")) {
                return Token.B;
            }
            if (reads("me")) {
                return Token.ME;
            }
            if (reads("it")) {
                return Token.IT;
            }
            return reads("ret") ? Token.RET : Token.WRONG;
        }

        private int longWord() {
            if (reads("true")) {
                return Token.TRUE;
            }
            if (reads("false")) {
                return Token.FALSE;
            }
            if (reads("null")) {
                return Token.NULL;
            }
            if (reads("list")) {
                return Token.LIST;
            }
            if (reads("role")) {
                return Token.ROLE;
            }
            return reads("size") ? Token.SIZE : Token.WRONG;
        }

        private boolean reads(String word) {
            if (word.length() != at - start) {
                return false;
            }
            for (int k = 0; k < word.length(); k++) {
                if (characters[start + k] != word.charAt(k)) {
                    return false;
                }
            }
            return true;
        }

        private int cutSign() {
            char c = characters[at];
            at++;
            switch (c) {
                case '(':
                    return Token.ROUND_OPEN;
                case ')':
                    return Token.ROUND_CLOSE;
                case '[':
                    return Token.INDEX;
                case ']':
                    return Token.SQUARE_CLOSE;
                case ':':
                    return Token.COLON;
                case '|':
                    return Token.OR;
                case '&':
                    return Token.AND;
                case '+':
                    return Token.PLUS;
                case '-':
                    return Token.MINUS;
                case '*':
                    return Token.TIMES;
                case '/':
                    return Token.OVER;
                case '%':
                    return Token.REMAINDER;
                default:
                    return cutLongSign(c);
            }
        }

        private int cutLongSign(char c) {
            switch (c) {
                case '=':
                    return passes('=') ? Token.SAME : Token.WRONG;
                case '!':
                    return passes('=') ? Token.DIFFERENT : Token.NOT;
                case '<':
                    return passes('=') ? Token.AT_MOST : Token.LESS;
                case '>':
                    return passes('=') ? Token.AT_LEAST : Token.MORE;
                case '?':
                    return cutQuestion();
                case '.':
                    return cutDot();
                default:
                    return Token.WRONG;
            }
        }

        private int cutQuestion() {
            if (passes(':')) {
                return Token.IF_NOTHING;
            }
            return passes('.') ? Token.SAFE_DOT : Token.QUESTION;
        }

        private int cutDot() {
            if (at + 1 >= length || characters[at + 1] != '[') {
                return Token.DOT;
            }
            int sort = endingOf(characters[at]);
            if (sort != Token.DOT) {
                at += 2;
            }
            return sort;
        }

        private static int endingOf(char c) {
            switch (c) {
                case '?':
                    return Token.ALL_OF;
                case '^':
                    return Token.FIRST_OF;
                case '$':
                    return Token.LAST_OF;
                default:
                    return Token.DOT;
            }
        }

        private boolean passes(char c) {
            if (at >= length || characters[at] != c) {
                return false;
            }
            at++;
            return true;
        }
    }

    /**
     * An expression as a row of parts. A part stands behind those it is made of, so the last one is
     * the whole.
     */
    private static final class Expression {
        static final int NO_PART = -1;

        private final int[] sort = new int[MOST_PARTS];
        private final int[] first = new int[MOST_PARTS];
        private final int[] second = new int[MOST_PARTS];
        private final int[] third = new int[MOST_PARTS];
        private final long[] number = new long[MOST_PARTS];
        private int size;

        boolean isThere() {
            return size > 0;
        }

        void clear() {
            size = 0;
        }

        int appendLeaf(int leaf, long value) {
            int part = appendPart(leaf, NO_PART, NO_PART, NO_PART);
            if (part != NO_PART) {
                number[part] = value;
            }
            return part;
        }

        int appendPart(int partSort, int one, int two, int three) {
            if (size >= MOST_PARTS) {
                return NO_PART;
            }
            int part = size;
            sort[part] = partSort;
            first[part] = one;
            second[part] = two;
            third[part] = three;
            size++;
            return part;
        }
    }

    /**
     * Reads a text as an expression, token by token and without recursion: brackets are no parts,
     * so a text may nest them forty-eight deep.
     */
    private static final class Reader {
        private static final int WANT_VALUE = 0;
        private static final int WANT_MORE = 1;
        private static final int WANT_ROLE_BRACKET = 2;
        private static final int WANT_SIZE = 3;

        // What has begun and waits for its last operand or its closing bracket, innermost last.
        private final int[] begun = new int[MOST_CHARACTERS];
        private int begunCount;
        private final int[] operands = new int[MOST_PARTS];
        private int operandCount;
        private int wanted;
        private int sizeSort;
        private int partCount;
        private Expression made;

        /** READ_WELL, or the text's FAULT. */
        int read(Text text, Expression into) {
            into.clear();
            made = into;
            begunCount = 0;
            operandCount = 0;
            partCount = 0;
            wanted = WANT_VALUE;
            text.rewind();
            // One step more than there can be tokens, for the end of the text.
            for (int step = 0; step <= MOST_CHARACTERS; step++) {
                text.cutNext();
                if (text.token == Token.NONE) {
                    return isFinished() ? READ_WELL : text.length;
                }
                if (!takes(text.token, text.number)) {
                    return text.start;
                }
            }
            return text.length;
        }

        private boolean isFinished() {
            if (wanted != WANT_MORE) {
                return false;
            }
            joinDownTo(Token.RANK_CHOICE);
            return begunCount == 0;
        }

        private boolean takes(int token, long number) {
            if (token == Token.WRONG) {
                return false;
            }
            if (Token.isPart(token)) {
                partCount++;
            }
            if (partCount > MOST_PARTS) {
                return false;
            }
            switch (wanted) {
                case WANT_VALUE:
                    return takesForValue(token, number);
                case WANT_ROLE_BRACKET:
                    return token == Token.ROUND_OPEN && begin(Token.ROLE);
                case WANT_SIZE:
                    return token == Token.SIZE && joinNow(sizeSort);
                default:
                    return takesBehindValue(token);
            }
        }

        private boolean takesForValue(int token, long number) {
            switch (token) {
                case Token.ROUND_OPEN:
                    return begin(Token.ROUND_OPEN);
                case Token.MINUS:
                    return begin(Token.NEGATE);
                case Token.NOT:
                    return begin(Token.NOT);
                case Token.ROLE:
                    wanted = WANT_ROLE_BRACKET;
                    return true;
                default:
                    return Token.isLeaf(token) && takesLeaf(token, number);
            }
        }

        private boolean takesLeaf(int token, long number) {
            pushOperand(made.appendLeaf(token, number));
            wanted = WANT_MORE;
            return true;
        }

        private boolean takesBehindValue(int token) {
            switch (token) {
                case Token.ROUND_CLOSE:
                    return closesRound();
                case Token.SQUARE_CLOSE:
                    return closesSquare();
                case Token.COLON:
                    return takesColon();
                case Token.DOT:
                    return waitsForSize(Token.SIZE);
                case Token.SAFE_DOT:
                    return waitsForSize(Token.SAFE_SIZE);
                case Token.INDEX:
                case Token.ALL_OF:
                case Token.FIRST_OF:
                case Token.LAST_OF:
                    return begin(token);
                case Token.QUESTION:
                case Token.IF_NOTHING:
                    // Choices join from the right: an earlier one still waits for this one.
                    joinDownTo(Token.RANK_OR);
                    return begin(token);
                default:
                    return takesBetween(token);
            }
        }

        private boolean takesBetween(int token) {
            int rank = Token.rankOf(token);
            if (rank < Token.RANK_OR || rank > Token.RANK_TERM) {
                return false;
            }
            joinDownTo(rank);
            return begin(token);
        }

        private boolean waitsForSize(int sort) {
            sizeSort = sort;
            wanted = WANT_SIZE;
            return true;
        }

        private boolean closesRound() {
            joinDownTo(Token.RANK_CHOICE);
            int opened = innermost();
            if (opened == Token.ROLE) {
                begunCount--;
                return joinNow(Token.ROLE);
            }
            if (opened != Token.ROUND_OPEN) {
                return false;
            }
            begunCount--;
            return true;
        }

        private boolean closesSquare() {
            joinDownTo(Token.RANK_CHOICE);
            int opened = innermost();
            if (!Token.opensSquare(opened)) {
                return false;
            }
            begunCount--;
            return joinNow(opened);
        }

        private boolean takesColon() {
            joinDownTo(Token.RANK_CHOICE);
            if (innermost() != Token.QUESTION) {
                return false;
            }
            begunCount--;
            return begin(Token.CHOOSE);
        }

        private boolean begin(int sort) {
            if (begunCount >= MOST_CHARACTERS) {
                return false;
            }
            begun[begunCount] = sort;
            begunCount++;
            wanted = WANT_VALUE;
            return true;
        }

        private int innermost() {
            return begunCount > 0 ? begun[begunCount - 1] : Token.NONE;
        }

        /** Joins all that has begun within the innermost bracket and binds at least as tightly. */
        private void joinDownTo(int rank) {
            while (begunCount > 0 && Token.rankOf(begun[begunCount - 1]) >= rank) {
                begunCount--;
                join(begun[begunCount]);
            }
        }

        private boolean joinNow(int sort) {
            join(sort);
            wanted = WANT_MORE;
            return true;
        }

        private void join(int sort) {
            int third = sort == Token.CHOOSE ? popOperand() : Expression.NO_PART;
            int second = Token.isOfOne(sort) ? Expression.NO_PART : popOperand();
            int first = popOperand();
            pushOperand(made.appendPart(sort, first, second, third));
        }

        private void pushOperand(int part) {
            if (operandCount < MOST_PARTS) {
                operands[operandCount] = part;
                operandCount++;
            }
        }

        private int popOperand() {
            if (operandCount <= 0) {
                return Expression.NO_PART;
            }
            operandCount--;
            return operands[operandCount];
        }
    }

    /** A list of at most five items. */
    private static final class Items {
        private final int[] row = new int[MOST_ITEMS];
        private int size;

        boolean append(int item) {
            if (size >= MOST_ITEMS) {
                return false;
            }
            row[size] = item;
            size++;
            return true;
        }

        void clear() {
            size = 0;
        }

        void copyFrom(Items other) {
            size = other.size;
            for (int k = 0; k < size; k++) {
                row[k] = other.row[k];
            }
        }

        boolean has(long place) {
            return place >= 0 && place < size;
        }

        int get(int place) {
            return place >= 0 && place < size ? row[place] : 0;
        }

        void raiseEach(int by) {
            for (int k = 0; k < size; k++) {
                row[k] += by;
            }
        }

        boolean sameAs(Items other) {
            if (size != other.size) {
                return false;
            }
            for (int k = 0; k < size; k++) {
                if (row[k] != other.row[k]) {
                    return false;
                }
            }
            return true;
        }
    }

    /** A value; its sorts are numbered as ask answers them. */
    private static final class Value {
        static final int ERROR = -1;
        static final int NOTHING = 0;
        static final int TRUTH = 1;
        static final int INT = 2;
        static final int LONG = 3;
        static final int LIST = 4;

        private int sort = ERROR;
        private long number;
        private final Items items = new Items();

        Value beNothing() {
            sort = NOTHING;
            number = 0;
            return this;
        }

        Value beTruth(boolean truth) {
            sort = TRUTH;
            number = truth ? 1 : 0;
            return this;
        }

        Value beInt(int value) {
            sort = INT;
            number = value;
            return this;
        }

        Value beLong(long value) {
            sort = LONG;
            number = value;
            return this;
        }

        Value beList(Items list) {
            sort = LIST;
            number = 0;
            items.copyFrom(list);
            return this;
        }

        Value beEmptyList() {
            sort = LIST;
            number = 0;
            items.clear();
            return this;
        }

        boolean isError() {
            return sort == ERROR;
        }

        boolean isNothing() {
            return sort == NOTHING;
        }

        boolean isTruth() {
            return sort == TRUTH;
        }

        boolean isTrue() {
            return sort == TRUTH && number == 1;
        }

        boolean isNumber() {
            return sort == INT || sort == LONG;
        }

        boolean isList() {
            return sort == LIST;
        }

        long asLong() {
            return sort == LIST ? items.size : number;
        }

        boolean sameAs(Value other) {
            if (isNumber() && other.isNumber()) {
                return number == other.number;
            }
            if (sort != other.sort) {
                return false;
            }
            return isList() ? items.sameAs(other.items) : number == other.number;
        }
    }

    /** Who is logged in, and which roles include which. */
    private static final class Context {
        private final int[] direct = new int[ROLE_COUNT];
        // With each role all that it includes, itself among them, so that reaching needs no search.
        private final int[] whole = new int[ROLE_COUNT];
        private int user = NOBODY;
        private int roles;

        Context() {
            for (int role = 0; role < ROLE_COUNT; role++) {
                whole[role] = 1 << role;
            }
        }

        /** For roles 0 .. 15. A role is in its own whole, which refuses x with x as well. */
        boolean include(int x, int y) {
            if (holds(direct[x], y) || holds(whole[y], x)) {
                return false;
            }
            direct[x] |= 1 << y;
            for (int role = 0; role < ROLE_COUNT; role++) {
                if (holds(whole[role], x)) {
                    whole[role] |= whole[y];
                }
            }
            return true;
        }

        private static boolean holds(int set, int role) {
            return (set >> role & 1) == 1;
        }

        void become(int newUser, int newRoles) {
            user = newUser;
            roles = newRoles;
        }

        void leave() {
            become(NOBODY, 0);
        }

        void lend(int extra) {
            if (!isNobody()) {
                roles |= extra;
            }
        }

        boolean isNobody() {
            return user == NOBODY;
        }

        int reachable() {
            int set = 0;
            for (int role = 0; role < ROLE_COUNT; role++) {
                if ((roles >> role & 1) == 1) {
                    set |= whole[role];
                }
            }
            return set;
        }

        boolean reaches(long role) {
            return role >= 0 && role < ROLE_COUNT && (reachable() >> (int) role & 1) == 1;
        }
    }

    /** Works expressions out. */
    private static final class Worker {
        private final Context context;
        // A row for each part: a part is never worked out within itself, so none is in use twice.
        private final Value[] rows = new Value[MOST_PARTS];
        private final Value error = new Value();
        private Expression expression;
        private int a;
        private long b;
        private Items list;
        private Value ret;
        private boolean looking;
        private int item;
        private final Items kept = new Items();

        Worker(Context context, Items list, Expression expression) {
            this.context = context;
            this.list = list;
            this.expression = expression;
            for (int part = 0; part < MOST_PARTS; part++) {
                rows[part] = new Value();
            }
        }

        void setArguments(int newA, long newB) {
            a = newA;
            b = newB;
        }

        /** What came back is null where it is not known. */
        void setLists(Items newList, Value cameBack) {
            list = newList;
            ret = cameBack;
        }

        /** The answer is good until the next expression is worked out. */
        Value workOut(Expression whole) {
            expression = whole;
            return valueOf(whole.size - 1, whole.size);
        }

        /** Leaves the items for which the expression is true; false when it is no TRUTH for one. */
        boolean filter(Expression whole, Items items) {
            expression = whole;
            // The expression may look at these very items, so they change only at the end.
            boolean sifted = sift(whole.size - 1, whole.size, items, kept);
            if (sifted) {
                items.copyFrom(kept);
            }
            return sifted;
        }

        /** A part stands before the one above that it belongs to, so the way down has an end. */
        private Value valueOf(int part, int above) {
            if (part < 0 || part >= above || above > MOST_PARTS) {
                return error;
            }
            int sort = expression.sort[part];
            switch (sort) {
                case Token.OR:
                case Token.AND:
                    return valueOfLogic(part, sort == Token.OR);
                case Token.CHOOSE:
                    return valueOfChoice(part);
                case Token.IF_NOTHING:
                    return valueOfIfNothing(part);
                case Token.ALL_OF:
                case Token.FIRST_OF:
                case Token.LAST_OF:
                    return valueOfSearch(part, sort);
                default:
                    break;
            }
            if (Token.isLeaf(sort)) {
                return valueOfLeaf(sort, expression.number[part], rows[part]);
            }
            Value x = valueOf(expression.first[part], part);
            if (x.isError()) {
                return error;
            }
            if (Token.isOfOne(sort)) {
                return valueOfOne(sort, x, rows[part]);
            }
            Value y = valueOf(expression.second[part], part);
            return y.isError() ? error : valueOfTwo(sort, x, y, rows[part]);
        }

        private Value valueOfLeaf(int sort, long number, Value into) {
            switch (sort) {
                case Token.INT:
                    return into.beInt((int) number);
                case Token.LONG:
                    return into.beLong(number);
                case Token.TRUE:
                    return into.beTruth(true);
                case Token.FALSE:
                    return into.beTruth(false);
                case Token.NULL:
                    return into.beNothing();
                case Token.ME:
                    return context.isNobody() ? into.beNothing() : into.beInt(context.user);
                case Token.A:
                    return into.beInt(a);
                case Token.B:
                    return into.beLong(b);
                case Token.IT:
                    return looking ? into.beInt(item) : error;
                case Token.RET:
                    return ret != null ? ret : error;
                case Token.LIST:
                    return into.beList(list);
                default:
                    return error;
            }
        }

        private Value valueOfLogic(int part, boolean settling) {
            Value x = valueOf(expression.first[part], part);
            if (!x.isTruth()) {
                return error;
            }
            if (x.isTrue() == settling) {
                return x;
            }
            Value y = valueOf(expression.second[part], part);
            return y.isTruth() ? y : error;
        }

        private Value valueOfChoice(int part) {
            Value x = valueOf(expression.first[part], part);
            if (!x.isTruth()) {
                return error;
            }
            return valueOf(x.isTrue() ? expression.second[part] : expression.third[part], part);
        }

        private Value valueOfIfNothing(int part) {
            Value x = valueOf(expression.first[part], part);
            return x.isNothing() ? valueOf(expression.second[part], part) : x;
        }

        private Value valueOfSearch(int part, int sort) {
            Value x = valueOf(expression.first[part], part);
            if (!x.isList()) {
                return error;
            }
            int test = expression.second[part];
            Value into = rows[part];
            if (sort == Token.ALL_OF) {
                into.beEmptyList();
                return sift(test, part, x.items, into.items) ? into : error;
            }
            return find(test, part, x.items, sort == Token.LAST_OF, into);
        }

        private boolean sift(int test, int above, Items from, Items into) {
            into.clear();
            for (int k = 0; k < from.size; k++) {
                int candidate = from.get(k);
                Value answer = answerFor(candidate, test, above);
                if (!answer.isTruth()) {
                    return false;
                }
                if (answer.isTrue()) {
                    into.append(candidate);
                }
            }
            return true;
        }

        private Value find(int test, int above, Items from, boolean fromLast, Value into) {
            for (int k = 0; k < from.size; k++) {
                int candidate = from.get(fromLast ? from.size - 1 - k : k);
                Value answer = answerFor(candidate, test, above);
                if (!answer.isTruth()) {
                    return error;
                }
                if (answer.isTrue()) {
                    return into.beInt(candidate);
                }
            }
            return into.beNothing();
        }

        /** The item looked at before comes back afterwards, for the rest of what stands around. */
        private Value answerFor(int candidate, int test, int above) {
            boolean lookedBefore = looking;
            int itemBefore = item;
            looking = true;
            item = candidate;
            Value answer = valueOf(test, above);
            looking = lookedBefore;
            item = itemBefore;
            return answer;
        }

        private Value valueOfOne(int sort, Value x, Value into) {
            switch (sort) {
                case Token.NEGATE:
                    return negated(x, into);
                case Token.NOT:
                    return x.isTruth() ? into.beTruth(!x.isTrue()) : error;
                case Token.ROLE:
                    return x.isNumber() ? into.beTruth(context.reaches(x.number)) : error;
                case Token.SAFE_SIZE:
                    return x.isNothing() ? x : sizeOf(x, into);
                case Token.SIZE:
                    return sizeOf(x, into);
                default:
                    return error;
            }
        }

        private Value negated(Value x, Value into) {
            if (!x.isNumber()) {
                return error;
            }
            return x.sort == Value.INT ? into.beInt((int) -x.number) : into.beLong(-x.number);
        }

        private Value sizeOf(Value x, Value into) {
            return x.isList() ? into.beInt(x.items.size) : error;
        }

        private Value valueOfTwo(int sort, Value x, Value y, Value into) {
            switch (sort) {
                case Token.SAME:
                    return into.beTruth(x.sameAs(y));
                case Token.DIFFERENT:
                    return into.beTruth(!x.sameAs(y));
                case Token.INDEX:
                    return itemOf(x, y, into);
                default:
                    return x.isNumber() && y.isNumber() ? valueOfNumbers(sort, x, y, into) : error;
            }
        }

        private Value itemOf(Value x, Value y, Value into) {
            if (!x.isList() || !y.isNumber() || !x.items.has(y.number)) {
                return error;
            }
            return into.beInt(x.items.get((int) y.number));
        }

        private Value valueOfNumbers(int sort, Value x, Value y, Value into) {
            switch (sort) {
                case Token.LESS:
                    return into.beTruth(x.number < y.number);
                case Token.AT_MOST:
                    return into.beTruth(x.number <= y.number);
                case Token.MORE:
                    return into.beTruth(x.number > y.number);
                case Token.AT_LEAST:
                    return into.beTruth(x.number >= y.number);
                default:
                    break;
            }
            if (y.number == 0 && (sort == Token.OVER || sort == Token.REMAINDER)) {
                return error;
            }
            // The low half of a result in longs is what ints would have wrapped to.
            long result = reckoned(sort, x.number, y.number);
            boolean ints = x.sort == Value.INT && y.sort == Value.INT;
            return ints ? into.beInt((int) result) : into.beLong(result);
        }

        private static long reckoned(int sort, long x, long y) {
            switch (sort) {
                case Token.PLUS:
                    return x + y;
                case Token.MINUS:
                    return x - y;
                case Token.TIMES:
                    return x * y;
                case Token.OVER:
                    return y == 0 ? 0 : x / y;
                case Token.REMAINDER:
                    return y == 0 ? 0 : x % y;
                default:
                    return 0;
            }
        }
    }

    /** What stands at a place for guards. */
    private static final class Guard {
        static final int NONE = 0;
        static final int OPEN = 1;
        static final int SHUT = 2;
        static final int ROLES = 3;
        static final int EXPRESSION = 4;

        private int form = NONE;
        private int detail;

        boolean isThere() {
            return form != NONE;
        }

        boolean watches() {
            return form == SHUT || form == ROLES || form == EXPRESSION;
        }

        /** For all kinds but EXPRESSION, which has to be worked out. */
        boolean opensTo(int reachable) {
            return form == ROLES ? (reachable & detail) != 0 : form != SHUT;
        }

        /** A guard gives way to one of its own kind alone, and there must be one to take away. */
        boolean turnInto(int newForm, int newDetail) {
            boolean fits = newForm == NONE ? isThere() : !isThere() || form == newForm;
            if (fits) {
                form = newForm;
                detail = newDetail;
            }
            return fits;
        }
    }

    /** A method's filters, check, target and counts. */
    private static final class Method {
        static final int NOTHING = 0;
        static final int SUM = 1;
        static final int RAISED_LIST = 2;
        static final int THROW = 3;
        static final int OTHER_USER = 4;
        static final int CALL_ON = 5;
        static final int CALL_AS_NOBODY = 6;

        private static final int COUNTS = 6;

        private int in = NO_SLOT;
        private int check = NO_SLOT;
        private int out = NO_SLOT;
        private int how = NOTHING;
        private int k;
        private int extra;
        private final int[] times = new int[COUNTS];

        void setRules(int newIn, int newCheck, int newOut) {
            in = newIn;
            check = newCheck;
            out = newOut;
        }

        boolean hasRule() {
            return in != NO_SLOT || check != NO_SLOT || out != NO_SLOT;
        }

        void setTarget(int newHow, int newK, int newExtra) {
            how = newHow;
            k = newK;
            extra = newExtra;
        }

        void note(int end) {
            if (end >= 0 && end < COUNTS) {
                times[end]++;
            }
        }

        int timesOf(int end) {
            return end >= 0 && end < COUNTS ? times[end] : 0;
        }
    }

    /** Lets calls go through their steps, and keeps what the latest one from outside brought. */
    private static final class Gate {
        private static final int NOT_YET = -1;
        private static final int GAVE_BACK = 0;
        private static final int THREW = 1;
        private static final int KEPT_OUT = 2;
        private static final int UNKNOWN_CALLER = 3;
        private static final int HELD_BACK = 4;
        private static final int ENTERED = 5;

        private static final int GAVE_NONE = -1;
        private static final int GAVE_NOTHING = 0;
        private static final int GAVE_INT = 1;
        private static final int GAVE_LIST = 2;

        private static final int TYPE_SIZE = 4;
        private static final int FIRST_TYPE = 8;
        private static final int TOO_DEEP = -1;

        private final Context context;
        private final Worker worker;
        private final Expression[] expressions;
        private final Method[] methods = new Method[METHODS];
        private final Guard[] guards = new Guard[PLACES];
        // The list of each open call, outermost first: what it was given, then what is left of it.
        private final Items[] lists = new Items[MOST_OPEN_CALLS];
        private final Value cameBack = new Value();
        private int a;
        private int thrown;
        private int latestEnd = NOT_YET;

        Gate(Context context, Worker worker, Expression[] expressions) {
            this.context = context;
            this.worker = worker;
            this.expressions = expressions;
            for (int m = 0; m < METHODS; m++) {
                methods[m] = new Method();
            }
            for (int place = 0; place < PLACES; place++) {
                guards[place] = new Guard();
            }
            for (int depth = 0; depth < MOST_OPEN_CALLS; depth++) {
                lists[depth] = new Items();
            }
        }

        void prepare(int newA, long newB, Items list) {
            a = newA;
            worker.setArguments(newA, newB);
            lists[0].copyFrom(list);
        }

        int latestKind() {
            if (latestEnd != GAVE_BACK) {
                return GAVE_NONE;
            }
            if (cameBack.isNothing()) {
                return GAVE_NOTHING;
            }
            return cameBack.isList() ? GAVE_LIST : GAVE_INT;
        }

        int latestNumber() {
            if (latestEnd == THREW) {
                return thrown;
            }
            return latestEnd == GAVE_BACK ? (int) cameBack.asLong() : 0;
        }

        int latestItem(int k) {
            return latestEnd == GAVE_BACK && cameBack.isList() ? cameBack.items.get(k) : 0;
        }

        /** A call within as many others as depth says, which is below MOST_OPEN_CALLS; its END. */
        private int run(int m, int depth) {
            Method method = methods[m];
            int user = context.user;
            int roles = context.roles;
            int end = letIn(method, guardOf(m), lists[depth]);
            if (end == GAVE_BACK) {
                method.note(ENTERED);
                end = work(method, depth);
            }
            context.become(user, roles);
            if (end == GAVE_BACK) {
                end = letOut(method, lists[depth]);
            }
            method.note(end);
            // The call from outside ends last of all that it brings about, so its END stays here.
            latestEnd = end;
            return end;
        }

        private Guard guardOf(int m) {
            return guards[m].isThere() ? guards[m] : guards[FIRST_TYPE + m / TYPE_SIZE];
        }

        private int letIn(Method method, Guard guard, Items list) {
            if (context.isNobody() && (guard.watches() || method.hasRule())) {
                return UNKNOWN_CALLER;
            }
            worker.setLists(list, null);
            if (method.in != NO_SLOT && !worker.filter(expressions[method.in], list)) {
                return KEPT_OUT;
            }
            boolean opens = guard.form == Guard.EXPRESSION
                    ? worker.workOut(expressions[guard.detail]).isTrue()
                    : guard.opensTo(context.reachable());
            return opens ? GAVE_BACK : KEPT_OUT;
        }

        private int work(Method method, int depth) {
            context.lend(method.extra);
            switch (method.how) {
                case Method.SUM:
                    cameBack.beInt(a + method.k);
                    return GAVE_BACK;
                case Method.RAISED_LIST:
                    cameBack.beList(lists[depth]);
                    cameBack.items.raiseEach(method.k);
                    return GAVE_BACK;
                case Method.THROW:
                    return throwing(method.k);
                case Method.OTHER_USER:
                    context.become(method.k, ALL_ROLES);
                    cameBack.beList(lists[depth]);
                    return GAVE_BACK;
                case Method.CALL_ON:
                    return callOn(method.k, depth);
                case Method.CALL_AS_NOBODY:
                    context.leave();
                    return callOn(method.k, depth);
                default:
                    cameBack.beNothing();
                    return GAVE_BACK;
            }
        }

        private int throwing(int number) {
            thrown = number;
            return THREW;
        }

        private int callOn(int m, int depth) {
            int inner = depth + 1;
            if (inner >= MOST_OPEN_CALLS) {
                return throwing(TOO_DEEP);
            }
            lists[inner].copyFrom(lists[depth]);
            return run(m, inner);
        }

        private int letOut(Method method, Items list) {
            worker.setLists(list, cameBack);
            if (method.check != NO_SLOT && !worker.workOut(expressions[method.check]).isTrue()) {
                return HELD_BACK;
            }
            if (method.out == NO_SLOT || cameBack.isNothing()) {
                return GAVE_BACK;
            }
            if (!cameBack.isList() || !worker.filter(expressions[method.out], cameBack.items)) {
                return HELD_BACK;
            }
            return GAVE_BACK;
        }
    }
}
