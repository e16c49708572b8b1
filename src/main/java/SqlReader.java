import java.util.Arrays;

/**
 * A reader of SQL: a text of statements becomes, statement by statement, a tree of numbered parts, or the
 * place is told with which nothing goes on.
 */
public final class SqlReader {
    private static final int FED = 20;
    private static final int FIRST_STATEMENTS = 64;

    private final Text text;
    private final Tokens tokens;
    private final Tree tree;
    private final Statements rules;
    private int[] starts;
    private int[] ends;
    private int statements;
    private int nodes;
    private boolean refused;

    public SqlReader() {
        text = new Text();
        tokens = new Tokens(new Scanner(text));
        tree = new Tree();
        rules = new Statements(tokens, tree, new Queries(tokens, tree));
        starts = new int[FIRST_STATEMENTS];
        ends = new int[FIRST_STATEMENTS];
    }

    public int feed(int a, int b, int c, int d, int e) throws IllegalStateException {
        if (text.length() > Text.MOST - FED) {
            throw new IllegalStateException();
        }
        statements = 0;
        text.putFour(a);
        text.putFour(b);
        text.putFour(c);
        text.putFour(d);
        text.putFour(e);
        return text.length();
    }

    public int add(int b) throws IllegalStateException {
        if (text.length() >= Text.MOST) {
            throw new IllegalStateException();
        }
        statements = 0;
        text.put(b);
        return text.length();
    }

    public int byteAt(int place) throws IndexOutOfBoundsException {
        int found = text.at(place);
        if (found < 0) {
            throw new IndexOutOfBoundsException();
        }
        return found;
    }

    public int end(int n) throws IllegalArgumentException {
        if (n < 0 || n > text.length()) {
            throw new IllegalArgumentException();
        }
        statements = 0;
        return text.cut(n);
    }

    public int read() throws IllegalArgumentException {
        statements = 0;
        nodes = 0;
        // A rule that throws leaves this as it is, and the tokens at the one with which nothing goes on.
        refused = true;
        int found = 0;
        int from = 0;
        boolean more = true;
        for (int turn = 0; more && turn <= Text.MOST; turn++) {
            tokens.fill(from);
            if (!tokens.isOver()) {
                rules.parse();
                tokens.expectOver();
                keepEdges(found);
                found++;
            }
            more = tokens.is(Token.SEMICOLON);
            from = tokens.behind();
        }
        refused = false;
        statements = found;
        return found;
    }

    public int where() {
        return refused ? tokens.place() : -1;
    }

    public int statement(int i) throws IndexOutOfBoundsException {
        if (i < 0 || i >= statements) {
            throw new IndexOutOfBoundsException();
        }
        tokens.fill(starts[i]);
        nodes = tree.number(rules.parse());
        return nodes;
    }

    public int edges() {
        return statements;
    }

    public int edge(int i, boolean end) throws IndexOutOfBoundsException {
        if (i < 0 || i >= statements) {
            throw new IndexOutOfBoundsException();
        }
        return end ? ends[i] : starts[i];
    }

    public int node(int k, int what) throws IndexOutOfBoundsException, IllegalArgumentException {
        if (k < 0 || k >= nodes) {
            throw new IndexOutOfBoundsException();
        }
        switch (what) {
            case 0:
                return tree.kindOf(k);
            case 1:
                return tree.markOf(k);
            case 2:
                return tree.placeOf(k);
            case 3:
                return tree.ownOf(k);
            case 4:
                return tree.partsOf(k);
            case 5:
                return tree.lengthOf(k);
            default:
                throw new IllegalArgumentException();
        }
    }

    public long whole(int k) throws IndexOutOfBoundsException {
        if (k < 0 || k >= nodes) {
            throw new IndexOutOfBoundsException();
        }
        return tree.valueOf(k);
    }

    public double real(int k) throws IndexOutOfBoundsException {
        if (k < 0 || k >= nodes) {
            throw new IndexOutOfBoundsException();
        }
        int behindPoint = tree.kindOf(k) == Kind.DECIMAL ? tree.markOf(k) : 0;
        double power = 1.0;
        for (int i = 0; i < behindPoint; i++) {
            power *= 10.0;
        }
        return (double) tree.valueOf(k) / power;
    }

    private void keepEdges(int i) {
        if (i >= starts.length) {
            starts = Arrays.copyOf(starts, 2 * starts.length);
            ends = Arrays.copyOf(ends, 2 * ends.length);
        }
        starts[i] = tokens.firstPlace();
        ends[i] = tokens.lastEnd();
    }

    /** THE TEXT: a row of bytes that grows as it is needed. */
    private static final class Text {
        static final int MOST = 65536;
        private static final int FIRST_ROOM = 2048;

        private byte[] bytes = new byte[FIRST_ROOM];
        private int length;

        int length() {
            return length;
        }

        /** The byte at a place, 0 to 255, or -1 where there is none. */
        int at(int place) {
            return place >= 0 && place < length ? bytes[place] & 0xFF : -1;
        }

        void put(int b) {
            if (length >= bytes.length) {
                bytes = Arrays.copyOf(bytes, 2 * bytes.length);
            }
            bytes[length] = (byte) b;
            length++;
        }

        void putFour(int four) {
            put(four >> 24);
            put(four >> 16);
            put(four >> 8);
            put(four);
        }

        int cut(int n) {
            int gone = length - n;
            length = n;
            return gone;
        }
    }

    /** How tightly the operators of an EXPR hold what stands beside them. */
    private static final class Level {
        static final int NONE = 0;
        static final int OR = 1;
        static final int AND = 2;
        static final int NOT = 3;
        /** A between that has not come to its and. */
        static final int HALF_TEST = 4;
        static final int TEST = 5;
        static final int SUM = 6;
        static final int PRODUCT = 7;
        static final int JOINT = 8;
        static final int SIGN = 9;
    }

    /**
     * The kinds of TOKENS: first the words that are no NAMES, in the order of the alphabet. The level is the
     * one that a TOKEN has behind an operand. The number is the KIND of a NODE of this one TOKEN, or else what
     * it gives to the MARK of the NODE in which it stands.
     */
    private enum Token {
        ALL("all"), AND("and", Level.AND, 0), AS("as"), ASC("asc"), AVG("avg", Level.NONE, 2), BEGIN("begin"),
        BETWEEN("between", Level.TEST, 0), BY("by"), CASCADE("cascade"), CASE("case"), CAST("cast"),
        CHECK("check"), COMMIT("commit"), COUNT("count", Level.NONE, 0), CREATE("create"), CROSS("cross"),
        DEFAULT("default"), DELETE("delete"), DESC("desc"), DISTINCT("distinct"), DROP("drop"), ELSE("else"),
        END("end"), EXCEPT("except"), EXISTS("exists"), FROM("from"), GROUP("group"),
        GROUP_CONCAT("group_concat", Level.NONE, 5), HAVING("having"), IF("if"), IGNORE("ignore"),
        IN("in", Level.TEST, 0), INDEX("index"), INNER("inner"), INSERT("insert"),
        INTEGER("integer", Level.NONE, 0), INTERSECT("intersect"), INTO("into"), IS("is", Level.TEST, 0),
        JOIN("join"), KEY("key"), LEFT("left"), LIKE("like", Level.TEST, 0), LIMIT("limit"),
        MAX("max", Level.NONE, 4), MIN("min", Level.NONE, 3), NOT("not", Level.TEST, 0),
        NULL("null", Level.NONE, Kind.NULL), OFFSET("offset"), ON("on"), OR("or", Level.OR, 0), ORDER("order"),
        OUTER("outer"), PRIMARY("primary"), REAL("real", Level.NONE, 1), REFERENCES("references"),
        RELEASE("release"), REPLACE("replace", Level.NONE, Kind.NAME), RESTRICT("restrict"), ROLLBACK("rollback"),
        SAVEPOINT("savepoint"), SELECT("select"), SET("set"), SUM("sum", Level.NONE, 1), TABLE("table"),
        TEXT("text", Level.NONE, 2), THEN("then"), TO("to"), UNION("union"), UNIQUE("unique"), UPDATE("update"),
        VALUES("values"), VIEW("view"), WHEN("when"), WHERE("where"), WITH("with"),
        NAME("", Level.NONE, Kind.NAME), WHOLE("", Level.NONE, Kind.INTEGER),
        DECIMAL("", Level.NONE, Kind.DECIMAL), QUOTED("", Level.NONE, Kind.TEXT),
        OPEN(""), CLOSE(""), COMMA(""), DOT(""),
        STAR("", Level.PRODUCT, '*'), SLASH("", Level.PRODUCT, '/'), PERCENT("", Level.PRODUCT, '%'),
        PLUS("", Level.SUM, '+'), MINUS("", Level.SUM, '-'), BARS("", Level.JOINT, 0),
        EQUAL("", Level.TEST, 1), UNEQUAL("", Level.TEST, 2), LESS("", Level.TEST, 3), AT_MOST("", Level.TEST, 4),
        MORE("", Level.TEST, 5), AT_LEAST("", Level.TEST, 6),
        SEMICOLON(""), FINISH(""), WRONG("");

        private final String word;
        private final int level;
        private final int number;

        Token(String word) {
            this(word, Level.NONE, 0);
        }

        Token(String word, int level, int number) {
            this.word = word;
            this.level = level;
            this.number = number;
        }

        String word() {
            return word;
        }

        int level() {
            return level;
        }

        int number() {
            return number;
        }
    }

    /** Finds the TOKEN that comes next behind a place. */
    private static final class Scanner {
        private static final Token[] ALL = Token.values();
        private static final int LETTERS = 26;
        private static final int LONGEST_WORD = 30;
        private static final int LONGEST_TEXT = 255;
        private static final int MOST_DIGITS = 15;
        private static final long GREATEST = 9223372036854775807L;
        private static final int NEWLINE = 10;
        private static final int FIRST_SHOWN = 32;
        private static final int LAST_SHOWN = 126;

        private final Text text;
        /** Where in ALL the words with a letter begin, and behind the last letter where they end. */
        private final int[] wordsFrom = new int[LETTERS + 1];
        private Token kind = Token.FINISH;
        private int place;
        private int behind;
        private long value;
        private int behindPoint;

        Scanner(Text text) {
            this.text = text;
            for (int i = 0; i < ALL.length; i++) {
                if (!ALL[i].word().isEmpty()) {
                    wordsFrom[ALL[i].word().charAt(0) - 'a' + 1] = i + 1;
                }
            }
            for (int letter = 1; letter <= LETTERS; letter++) {
                wordsFrom[letter] = Math.max(wordsFrom[letter], wordsFrom[letter - 1]);
            }
        }

        Token kind() {
            return kind;
        }

        int place() {
            return place;
        }

        int behind() {
            return behind;
        }

        /** The digits of a number. */
        long value() {
            return value;
        }

        /** How many digits of a number stand behind its point. */
        int behindPoint() {
            return behindPoint;
        }

        void scan(int from) {
            place = skipGap(from);
            behind = place + 1;
            value = 0;
            behindPoint = 0;
            int first = text.at(place);
            if (first < 0) {
                behind = place;
                kind = Token.FINISH;
            } else if (isDigit(first)) {
                kind = number();
            } else if (isOfWord(first)) {
                kind = word();
            } else if (first == '\'') {
                kind = quoted();
            } else {
                kind = sign(first, text.at(behind));
            }
        }

        private int skipGap(int from) {
            boolean inComment = false;
            for (int at = from; at < text.length(); at++) {
                int here = text.at(at);
                if (here == NEWLINE) {
                    inComment = false;
                } else if (here == '-' && text.at(at + 1) == '-') {
                    inComment = true;
                } else if (here != ' ' && !inComment) {
                    return at;
                }
            }
            return text.length();
        }

        private Token word() {
            while (behind < text.length() && isOfWord(text.at(behind))) {
                behind++;
            }
            if (behind - place > LONGEST_WORD) {
                return Token.WRONG;
            }
            int letter = small(text.at(place)) - 'a';
            if (letter < 0 || letter >= LETTERS) {
                return Token.NAME;
            }
            for (int i = wordsFrom[letter]; i < wordsFrom[letter + 1]; i++) {
                if (stands(ALL[i].word())) {
                    return ALL[i];
                }
            }
            return Token.NAME;
        }

        private boolean stands(String word) {
            if (word.length() != behind - place) {
                return false;
            }
            for (int i = 0; i < word.length(); i++) {
                if (small(text.at(place + i)) != word.charAt(i)) {
                    return false;
                }
            }
            return true;
        }

        private Token number() {
            behind = place;
            digits();
            if (text.at(behind) != '.' || !isDigit(text.at(behind + 1))) {
                return value < 0 ? Token.WRONG : Token.WHOLE;
            }
            behind++;
            int point = behind;
            digits();
            behindPoint = behind - point;
            // All bytes but the point are digits.
            return behind - place - 1 > MOST_DIGITS ? Token.WRONG : Token.DECIMAL;
        }

        /** Takes digits into the value, which is -1 when it has become too great. */
        private void digits() {
            while (behind < text.length() && isDigit(text.at(behind))) {
                int digit = text.at(behind) - '0';
                value = value < 0 || value > (GREATEST - digit) / 10 ? -1 : 10 * value + digit;
                behind++;
            }
        }

        private Token quoted() {
            int held = 0;
            while (behind < text.length()) {
                int here = text.at(behind);
                behind++;
                if (here == '\'') {
                    if (text.at(behind) != '\'') {
                        return held > LONGEST_TEXT ? Token.WRONG : Token.QUOTED;
                    }
                    behind++;
                } else if (here != NEWLINE && (here < FIRST_SHOWN || here > LAST_SHOWN)) {
                    return Token.WRONG;
                }
                held++;
            }
            return Token.WRONG;
        }

        private Token sign(int first, int second) {
            switch (first) {
                case '(':
                    return Token.OPEN;
                case ')':
                    return Token.CLOSE;
                case ',':
                    return Token.COMMA;
                case ';':
                    return Token.SEMICOLON;
                case '.':
                    return Token.DOT;
                case '*':
                    return Token.STAR;
                case '+':
                    return Token.PLUS;
                case '-':
                    return Token.MINUS;
                case '/':
                    return Token.SLASH;
                case '%':
                    return Token.PERCENT;
                case '=':
                    return Token.EQUAL;
                case '<':
                    return second == '>' ? two(Token.UNEQUAL) : second == '=' ? two(Token.AT_MOST) : Token.LESS;
                case '>':
                    return second == '=' ? two(Token.AT_LEAST) : Token.MORE;
                case '!':
                    return second == '=' ? two(Token.UNEQUAL) : Token.WRONG;
                case '|':
                    return second == '|' ? two(Token.BARS) : Token.WRONG;
                default:
                    return Token.WRONG;
            }
        }

        private Token two(Token sign) {
            behind = place + 2;
            return sign;
        }

        private static boolean isDigit(int b) {
            return b >= '0' && b <= '9';
        }

        private static boolean isOfWord(int b) {
            int letter = small(b);
            return letter >= 'a' && letter <= 'z' || b == '_' || isDigit(b);
        }

        private static int small(int b) {
            return b >= 'A' && b <= 'Z' ? b - 'A' + 'a' : b;
        }
    }

    /**
     * The TOKENS of one STATEMENT, up to the one that ends it: a semicolon, the finish of THE TEXT, or a wrong
     * one. Those before the current one have been taken.
     */
    private static final class Tokens {
        static final int MOST = 1024;
        static final int MOST_OPEN = 30;

        private final Scanner scanner;
        private final Token[] kinds = new Token[MOST + 1];
        private final int[] places = new int[MOST + 1];
        private final int[] ends = new int[MOST + 1];
        private final long[] values = new long[MOST + 1];
        private final int[] behindPoints = new int[MOST + 1];
        private int last;
        private int current;
        private int open;

        Tokens(Scanner scanner) {
            this.scanner = scanner;
            for (int i = 0; i <= MOST; i++) {
                kinds[i] = Token.FINISH;
            }
        }

        void fill(int from) {
            current = 0;
            open = 0;
            last = 0;
            keep(from);
            while (last < MOST && !isLast(kinds[last])) {
                last++;
                keep(ends[last - 1]);
            }
            if (!isLast(kinds[last])) {
                kinds[last] = Token.WRONG;
            }
        }

        private void keep(int from) {
            scanner.scan(from);
            kinds[last] = scanner.kind();
            places[last] = scanner.place();
            ends[last] = scanner.behind();
            values[last] = scanner.value();
            behindPoints[last] = scanner.behindPoint();
        }

        private static boolean isLast(Token kind) {
            return kind == Token.SEMICOLON || kind == Token.FINISH || kind == Token.WRONG;
        }

        Token kind() {
            return kinds[current];
        }

        /** The kind of a TOKEN some steps behind the current one, or of the last one. */
        Token kindAhead(int steps) {
            return current + steps < last ? kinds[current + steps] : kinds[last];
        }

        int place() {
            return places[current];
        }

        int size() {
            return ends[current] - places[current];
        }

        long value() {
            return values[current];
        }

        int behindPoint() {
            return behindPoints[current];
        }

        int firstPlace() {
            return places[0];
        }

        /** The place behind the TOKEN before the last one. */
        int lastEnd() {
            return last > 0 ? ends[last - 1] : places[0];
        }

        /** The place behind all of them. */
        int behind() {
            return ends[last];
        }

        boolean is(Token token) {
            return kinds[current] == token;
        }

        boolean isOver() {
            return kinds[current] == Token.SEMICOLON || kinds[current] == Token.FINISH;
        }

        void next() {
            if (current < last) {
                current++;
            }
        }

        /** Goes on if the current one is this: whether it was. */
        boolean take(Token token) {
            if (kinds[current] != token || current >= last) {
                return false;
            }
            current++;
            return true;
        }

        void expect(Token token) {
            if (kinds[current] != token || current >= last) {
                throw new IllegalArgumentException();
            }
            current++;
        }

        void expectOver() {
            if (!isOver()) {
                throw new IllegalArgumentException();
            }
        }

        /** Expects one that stays open. */
        void open(Token token) {
            if (open >= MOST_OPEN || kinds[current] != token || current >= last) {
                throw new IllegalArgumentException();
            }
            current++;
            open++;
        }

        /** Expects the one that ends what was opened latest. */
        void close(Token token) {
            expect(token);
            open--;
        }

        /** What was opened latest has ended without a TOKEN of its own. */
        void closeSilently() {
            open--;
        }
    }

    /** The numbers of the KINDS of NODES. */
    private static final class Kind {
        static final int CREATE_TABLE = 1;
        static final int COLUMN_MADE = 2;
        static final int NOT_NULL = 3;
        static final int PRIMARY_KEY = 4;
        static final int UNIQUE = 5;
        static final int DEFAULT = 6;
        static final int CHECK = 7;
        static final int REFERENCES = 8;
        static final int CREATE_INDEX = 9;
        static final int CREATE_VIEW = 10;
        static final int DROP = 11;
        static final int INSERT = 12;
        static final int NAMES = 13;
        static final int VALUES = 14;
        static final int ROW = 15;
        static final int UPDATE = 16;
        static final int SET = 17;
        static final int WHERE = 18;
        static final int DELETE = 19;
        static final int BEGIN = 20;
        static final int COMMIT = 21;
        static final int ROLLBACK = 22;
        static final int SAVEPOINT = 23;
        static final int RELEASE = 24;
        static final int QUERY = 25;
        static final int WITH = 26;
        static final int WITH_ONE = 27;
        static final int CORE = 28;
        static final int KEY = 29;
        static final int LIMIT = 30;
        static final int ITEM_ALL = 31;
        static final int ITEM_ALL_OF = 32;
        static final int ITEM = 33;
        static final int FROM = 34;
        static final int SOURCE = 35;
        static final int ON = 36;
        static final int GROUP = 37;
        static final int HAVING = 38;
        static final int NAME = 39;
        static final int INTEGER = 40;
        static final int DECIMAL = 41;
        static final int TEXT = 42;
        static final int NULL = 43;
        static final int COLUMN = 44;
        static final int FUNCTION = 45;
        static final int COUNT_ALL = 46;
        static final int AGGREGATE = 47;
        static final int CASE = 48;
        static final int CAST = 49;
        static final int EXISTS = 50;
        static final int BRACKETED_QUERY = 51;
        static final int OR = 52;
        static final int AND = 53;
        static final int NOT = 54;
        static final int COMPARED = 55;
        static final int IS_NULL = 56;
        static final int LIKE = 57;
        static final int BETWEEN = 58;
        static final int IN_QUERY = 59;
        static final int IN = 60;
        static final int SUM = 61;
        static final int STEP = 62;
        static final int PRODUCT = 63;
        static final int JOINT = 64;
        static final int MINUS = 65;
    }

    /**
     * THE TREE of one STATEMENT: NODES by the order in which they are made, and, once they are numbered, by
     * their numbers. NONE stands for no NODE.
     */
    private static final class Tree {
        static final int NONE = -1;
        // No STATEMENT makes more than two NODES a TOKEN, and one.
        private static final int MOST = 2 * Tokens.MOST + 1;

        private final int[] kinds = new int[MOST];
        private final int[] marks = new int[MOST];
        private final int[] places = new int[MOST];
        private final int[] owns = new int[MOST];
        private final int[] lengths = new int[MOST];
        private final int[] parts = new int[MOST];
        private final long[] values = new long[MOST];
        private final int[] firsts = new int[MOST];
        private final int[] lasts = new int[MOST];
        private final int[] nexts = new int[MOST];
        private final int[] holders = new int[MOST];
        private final int[] order = new int[MOST];
        private int count;

        void clear() {
            count = 0;
        }

        int make(int kind, int place) {
            if (count >= MOST) {
                throw new IllegalArgumentException();
            }
            int node = count;
            count++;
            kinds[node] = kind;
            marks[node] = 0;
            places[node] = place;
            owns[node] = place;
            lengths[node] = 0;
            parts[node] = 0;
            values[node] = 0;
            firsts[node] = NONE;
            lasts[node] = NONE;
            nexts[node] = NONE;
            holders[node] = NONE;
            return node;
        }

        void append(int holder, int part) {
            if (parts[holder] == 0) {
                firsts[holder] = part;
            } else {
                nexts[lasts[holder]] = part;
            }
            lasts[holder] = part;
            holders[part] = holder;
            parts[holder]++;
        }

        void setMark(int node, int mark) {
            marks[node] = mark;
        }

        void setToken(int node, int length, long value) {
            lengths[node] = length;
            values[node] = value;
        }

        /** Brackets round an EXPR: its PLACE is theirs, its OWN place stays. */
        void bracket(int node, int place) {
            places[node] = place;
        }

        int place(int node) {
            return places[node];
        }

        /** What takes the next operand of a NODE: in a SUM or PRODUCT its latest step, else itself. */
        int taker(int node) {
            boolean inSteps = kinds[node] == Kind.SUM || kinds[node] == Kind.PRODUCT;
            return inSteps && parts[node] > 0 ? lasts[node] : node;
        }

        /** Numbers all from the root on, each before its parts: how many there are. */
        int number(int root) {
            int found = 0;
            int node = root;
            while (node != NONE && found < count) {
                order[found] = node;
                found++;
                node = firsts[node] != NONE ? firsts[node] : besideOrAbove(node);
            }
            return found;
        }

        private int besideOrAbove(int node) {
            int at = node;
            for (int turn = 0; turn < count && at != NONE && nexts[at] == NONE; turn++) {
                at = holders[at];
            }
            return at == NONE ? NONE : nexts[at];
        }

        int kindOf(int number) {
            return kinds[order[number]];
        }

        int markOf(int number) {
            return marks[order[number]];
        }

        int placeOf(int number) {
            return places[order[number]];
        }

        int ownOf(int number) {
            return owns[order[number]];
        }

        int partsOf(int number) {
            return parts[order[number]];
        }

        int lengthOf(int number) {
            return lengths[order[number]];
        }

        long valueOf(int number) {
            return values[order[number]];
        }
    }

    /**
     * The rules of QUERY and EXPR, which hold one another. Operators that wait for their next operand stand on
     * a pile, not on open calls, so that only what counts as open in the document makes calls deeper.
     */
    private static final class Queries {
        // Between two that are open at most one operator of each of six levels waits.
        private static final int MOST_WAITING = 6 * (Tokens.MOST_OPEN + 1) + Tokens.MOST_OPEN;
        private static final int NO_JOIN = -1;
        private static final int PLAIN = 0;
        private static final int INNER = 1;
        private static final int LEFT = 2;

        private final Tokens tokens;
        private final Tree tree;
        private final int[] waitingLevels = new int[MOST_WAITING];
        private final int[] waitingNodes = new int[MOST_WAITING];
        private int height;

        Queries(Tokens tokens, Tree tree) {
            this.tokens = tokens;
            this.tree = tree;
        }

        void clear() {
            height = 0;
        }

        /** A NODE of the current TOKEN, which must be this one. */
        int leaf(Token token) {
            int node = tree.make(token.number(), tokens.place());
            tree.setToken(node, tokens.size(), tokens.value());
            tree.setMark(node, tokens.behindPoint());
            tokens.expect(token);
            return node;
        }

        int type() {
            int mark = tokens.kind().number();
            if (!tokens.take(Token.INTEGER) && !tokens.take(Token.REAL)) {
                tokens.expect(Token.TEXT);
            }
            return mark;
        }

        /** One or more NAMES or EXPRS with commas between. */
        void list(int holder, boolean ofNames) {
            boolean more = true;
            for (int turn = 0; more && turn < Tokens.MOST; turn++) {
                tree.append(holder, ofNames ? leaf(Token.NAME) : expression());
                more = tokens.take(Token.COMMA);
            }
        }

        /** A word with an EXPR behind it. */
        int clause(int kind) {
            int node = tree.make(kind, tokens.place());
            tokens.next();
            tree.append(node, expression());
            return node;
        }

        int query() {
            int query = tree.make(Kind.QUERY, tokens.place());
            if (tokens.is(Token.WITH)) {
                tree.append(query, with());
            }
            tree.append(query, core(0));
            int way = compound();
            for (int turn = 0; way > 0 && turn < Tokens.MOST; turn++) {
                tree.append(query, core(way));
                way = compound();
            }
            if (tokens.take(Token.ORDER)) {
                tokens.expect(Token.BY);
                keys(query);
            }
            if (tokens.is(Token.LIMIT)) {
                int limit = tree.make(Kind.LIMIT, tokens.place());
                tree.append(query, limit);
                tokens.next();
                tree.append(limit, leaf(Token.WHOLE));
                if (tokens.take(Token.OFFSET)) {
                    tree.append(limit, leaf(Token.WHOLE));
                }
            }
            return query;
        }

        private int with() {
            int with = tree.make(Kind.WITH, tokens.place());
            tokens.expect(Token.WITH);
            boolean more = true;
            for (int turn = 0; more && turn < Tokens.MOST; turn++) {
                tree.append(with, withOne());
                more = tokens.take(Token.COMMA);
            }
            return with;
        }

        private int withOne() {
            int one = tree.make(Kind.WITH_ONE, tokens.place());
            tree.append(one, leaf(Token.NAME));
            int names = tree.make(Kind.NAMES, tokens.place());
            if (tokens.is(Token.OPEN)) {
                tokens.open(Token.OPEN);
                list(names, true);
                tokens.close(Token.CLOSE);
            }
            tokens.expect(Token.AS);
            tokens.open(Token.OPEN);
            tree.append(one, query());
            tokens.close(Token.CLOSE);
            tree.append(one, names);
            return one;
        }

        /** How the next CORE comes to those before it, as the document counts the ways; 0 if none comes. */
        private int compound() {
            if (tokens.take(Token.UNION)) {
                return tokens.take(Token.ALL) ? 2 : 1;
            }
            if (tokens.take(Token.INTERSECT)) {
                return 3;
            }
            return tokens.take(Token.EXCEPT) ? 4 : 0;
        }

        private void keys(int query) {
            boolean more = true;
            for (int turn = 0; more && turn < Tokens.MOST; turn++) {
                int key = tree.make(Kind.KEY, tokens.place());
                tree.append(key, expression());
                if (tokens.take(Token.DESC)) {
                    tree.setMark(key, 1);
                } else {
                    tokens.take(Token.ASC);
                }
                tree.append(query, key);
                more = tokens.take(Token.COMMA);
            }
        }

        private int core(int way) {
            int core = tree.make(Kind.CORE, tokens.place());
            tokens.expect(Token.SELECT);
            tree.setMark(core, 2 * way + (tokens.take(Token.DISTINCT) ? 1 : 0));
            boolean more = true;
            for (int turn = 0; more && turn < Tokens.MOST; turn++) {
                tree.append(core, item());
                more = tokens.take(Token.COMMA);
            }
            if (tokens.is(Token.FROM)) {
                tree.append(core, from());
            }
            if (tokens.is(Token.WHERE)) {
                tree.append(core, clause(Kind.WHERE));
            }
            if (tokens.is(Token.GROUP)) {
                tree.append(core, group());
            }
            if (tokens.is(Token.HAVING)) {
                tree.append(core, clause(Kind.HAVING));
            }
            return core;
        }

        private int item() {
            int place = tokens.place();
            if (tokens.take(Token.STAR)) {
                return tree.make(Kind.ITEM_ALL, place);
            }
            if (tokens.is(Token.NAME) && tokens.kindAhead(1) == Token.DOT && tokens.kindAhead(2) == Token.STAR) {
                int allOf = tree.make(Kind.ITEM_ALL_OF, place);
                tree.append(allOf, leaf(Token.NAME));
                tokens.expect(Token.DOT);
                tokens.expect(Token.STAR);
                return allOf;
            }
            int item = tree.make(Kind.ITEM, place);
            tree.append(item, expression());
            if (tokens.take(Token.AS) || tokens.is(Token.NAME)) {
                tree.append(item, leaf(Token.NAME));
            }
            return item;
        }

        private int from() {
            int from = tree.make(Kind.FROM, tokens.place());
            tokens.expect(Token.FROM);
            int way = PLAIN;
            for (int turn = 0; way != NO_JOIN && turn < Tokens.MOST; turn++) {
                tree.append(from, source(way));
                way = joined();
            }
            return from;
        }

        /** How the next SOURCE is joined to those before it. */
        private int joined() {
            if (tokens.take(Token.COMMA)) {
                return PLAIN;
            }
            int way = NO_JOIN;
            if (tokens.take(Token.CROSS)) {
                way = PLAIN;
            } else if (tokens.take(Token.INNER) || tokens.is(Token.JOIN)) {
                way = INNER;
            } else if (tokens.take(Token.LEFT)) {
                tokens.take(Token.OUTER);
                way = LEFT;
            }
            if (way != NO_JOIN) {
                tokens.expect(Token.JOIN);
            }
            return way;
        }

        private int source(int way) {
            int source = tree.make(Kind.SOURCE, tokens.place());
            tree.setMark(source, way);
            if (tokens.is(Token.OPEN)) {
                tokens.open(Token.OPEN);
                tree.append(source, query());
                tokens.close(Token.CLOSE);
                tokens.take(Token.AS);
                tree.append(source, leaf(Token.NAME));
            } else {
                tree.append(source, leaf(Token.NAME));
                if (tokens.take(Token.AS) || tokens.is(Token.NAME)) {
                    tree.append(source, leaf(Token.NAME));
                }
            }
            if (way == LEFT || way == INNER && tokens.is(Token.ON)) {
                int on = tree.make(Kind.ON, tokens.place());
                tokens.expect(Token.ON);
                tree.append(on, expression());
                tree.append(source, on);
            }
            return source;
        }

        private int group() {
            int group = tree.make(Kind.GROUP, tokens.place());
            tokens.expect(Token.GROUP);
            tokens.expect(Token.BY);
            list(group, false);
            return group;
        }

        int expression() {
            int base = height;
            int found = Tree.NONE;
            for (int turn = 0; found == Tree.NONE && turn < Tokens.MOST; turn++) {
                prefixes(base);
                found = goOn(base, atom());
            }
            return found;
        }

        /** Puts every not and - that stands before the next ATOM on the pile. */
        private void prefixes(int base) {
            boolean more = true;
            for (int turn = 0; more && turn <= Tokens.MOST_OPEN; turn++) {
                int place = tokens.place();
                if (tokens.is(Token.MINUS)) {
                    tokens.open(Token.MINUS);
                    push(Level.SIGN, tree.make(Kind.MINUS, place));
                } else if (tokens.is(Token.NOT) && waitingLevel(base) <= Level.NOT) {
                    tokens.open(Token.NOT);
                    push(Level.NOT, tree.make(Kind.NOT, place));
                } else {
                    more = false;
                }
            }
        }

        private void push(int level, int node) {
            if (height >= MOST_WAITING) {
                throw new IllegalArgumentException();
            }
            waitingLevels[height] = level;
            waitingNodes[height] = node;
            height++;
        }

        /** The level of what waits on top of the pile above a base, NONE if nothing does. */
        private int waitingLevel(int base) {
            return height > base ? waitingLevels[height - 1] : Level.NONE;
        }

        /** Goes on behind an operand: the whole EXPR if it ends there, NONE if one more operand must come. */
        private int goOn(int base, int operand) {
            int level = tokens.kind().level();
            int node = close(base, level, operand);
            if (level == Level.TEST) {
                if (waitingLevel(base) < Level.HALF_TEST) {
                    node = test(node);
                }
                if (node == Tree.NONE) {
                    return Tree.NONE;
                }
                // Behind a whole TEST nothing goes on but and, or.
                level = tokens.kind().level() < Level.TEST ? tokens.kind().level() : Level.NONE;
                node = close(base, level, node);
            }
            if (level < Level.TEST && waitingLevel(base) == Level.HALF_TEST) {
                tokens.expect(Token.AND);
                tree.append(waitingNodes[height - 1], node);
                waitingLevels[height - 1] = Level.TEST;
                return Tree.NONE;
            }
            if (level == Level.NONE) {
                return node;
            }
            chain(base, level, node);
            return Tree.NONE;
        }

        /** Ends all that waits and holds tighter than a level, with a node as its last operand. */
        private int close(int base, int level, int node) {
            int done = node;
            while (height > base && waitingLevels[height - 1] > level
                    && waitingLevels[height - 1] != Level.HALF_TEST) {
                height--;
                int ended = waitingLevels[height];
                if (ended == Level.NOT || ended == Level.SIGN) {
                    tokens.closeSilently();
                }
                tree.append(tree.taker(waitingNodes[height]), done);
                done = waitingNodes[height];
            }
            return done;
        }

        /** An operator of which any number may follow each other: its row goes on, or begins. */
        private void chain(int base, int level, int operand) {
            int row;
            if (waitingLevel(base) == level) {
                row = waitingNodes[height - 1];
                tree.append(tree.taker(row), operand);
            } else {
                row = tree.make(chainKind(level), tree.place(operand));
                tree.append(row, operand);
                push(level, row);
            }
            if (level == Level.SUM || level == Level.PRODUCT) {
                int step = tree.make(Kind.STEP, tokens.place());
                tree.setMark(step, tokens.kind().number());
                tree.append(row, step);
            }
            tokens.next();
        }

        private static int chainKind(int level) {
            switch (level) {
                case Level.OR:
                    return Kind.OR;
                case Level.AND:
                    return Kind.AND;
                case Level.SUM:
                    return Kind.SUM;
                case Level.PRODUCT:
                    return Kind.PRODUCT;
                default:
                    return Kind.JOINT;
            }
        }

        /** What makes a SUM a TEST: the whole TEST, or NONE if it waits for one more operand. */
        private int test(int sum) {
            int not = tokens.take(Token.NOT) ? 1 : 0;
            if (tokens.is(Token.IN)) {
                return in(sum, not);
            }
            if (tokens.is(Token.LIKE)) {
                return waitingTest(Level.TEST, Kind.LIKE, not, sum);
            }
            if (tokens.is(Token.BETWEEN)) {
                return waitingTest(Level.HALF_TEST, Kind.BETWEEN, not, sum);
            }
            if (not == 1) {
                throw new IllegalArgumentException();
            }
            if (tokens.is(Token.IS)) {
                return isNull(sum);
            }
            return waitingTest(Level.TEST, Kind.COMPARED, tokens.kind().number(), sum);
        }

        private int waitingTest(int level, int kind, int mark, int sum) {
            int node = tree.make(kind, tree.place(sum));
            tree.setMark(node, mark);
            tree.append(node, sum);
            tokens.next();
            push(level, node);
            return Tree.NONE;
        }

        private int isNull(int sum) {
            int node = tree.make(Kind.IS_NULL, tree.place(sum));
            tree.append(node, sum);
            tokens.expect(Token.IS);
            tree.setMark(node, tokens.take(Token.NOT) ? 1 : 0);
            tokens.expect(Token.NULL);
            return node;
        }

        private int in(int sum, int not) {
            tokens.expect(Token.IN);
            tokens.open(Token.OPEN);
            boolean ofQuery = beginsQuery();
            int node = tree.make(ofQuery ? Kind.IN_QUERY : Kind.IN, tree.place(sum));
            tree.setMark(node, not);
            tree.append(node, sum);
            if (ofQuery) {
                tree.append(node, query());
            } else {
                list(node, false);
            }
            tokens.close(Token.CLOSE);
            return node;
        }

        private boolean beginsQuery() {
            return tokens.is(Token.SELECT) || tokens.is(Token.WITH);
        }

        private int atom() {
            switch (tokens.kind()) {
                case WHOLE:
                case DECIMAL:
                case QUOTED:
                case NULL:
                    return leaf(tokens.kind());
                case NAME:
                    return named();
                case REPLACE:
                    return replace();
                case COUNT:
                case SUM:
                case AVG:
                case MIN:
                case MAX:
                case GROUP_CONCAT:
                    return aggregate(tokens.kind());
                case CASE:
                    return cases();
                case CAST:
                    return cast();
                case EXISTS:
                    return exists();
                default:
                    return bracketed();
            }
        }

        /** A COLUMN or a FUNCTION. */
        private int named() {
            boolean isFunction = tokens.kindAhead(1) == Token.OPEN;
            int node = tree.make(isFunction ? Kind.FUNCTION : Kind.COLUMN, tokens.place());
            tree.append(node, leaf(Token.NAME));
            if (isFunction) {
                tokens.open(Token.OPEN);
                if (!tokens.is(Token.CLOSE)) {
                    list(node, false);
                }
                tokens.close(Token.CLOSE);
            } else if (tokens.take(Token.DOT)) {
                tree.append(node, leaf(Token.NAME));
            }
            return node;
        }

        private int replace() {
            int function = tree.make(Kind.FUNCTION, tokens.place());
            tree.append(function, leaf(Token.REPLACE));
            tokens.open(Token.OPEN);
            tree.append(function, expression());
            tokens.expect(Token.COMMA);
            tree.append(function, expression());
            tokens.expect(Token.COMMA);
            tree.append(function, expression());
            tokens.close(Token.CLOSE);
            return function;
        }

        private int aggregate(Token word) {
            int place = tokens.place();
            tokens.next();
            tokens.open(Token.OPEN);
            int node;
            if (word == Token.COUNT && tokens.take(Token.STAR)) {
                node = tree.make(Kind.COUNT_ALL, place);
            } else {
                node = tree.make(Kind.AGGREGATE, place);
                tree.setMark(node, 2 * word.number() + (tokens.take(Token.DISTINCT) ? 1 : 0));
                tree.append(node, expression());
            }
            tokens.close(Token.CLOSE);
            return node;
        }

        private int cases() {
            int cases = tree.make(Kind.CASE, tokens.place());
            tokens.open(Token.CASE);
            int mark = 0;
            if (!tokens.is(Token.WHEN)) {
                tree.append(cases, expression());
                mark = 1;
            }
            boolean more = true;
            for (int turn = 0; more && turn < Tokens.MOST; turn++) {
                tokens.expect(Token.WHEN);
                tree.append(cases, expression());
                tokens.expect(Token.THEN);
                tree.append(cases, expression());
                more = tokens.is(Token.WHEN);
            }
            if (tokens.take(Token.ELSE)) {
                tree.append(cases, expression());
                mark += 2;
            }
            tokens.close(Token.END);
            tree.setMark(cases, mark);
            return cases;
        }

        private int cast() {
            int cast = tree.make(Kind.CAST, tokens.place());
            tokens.expect(Token.CAST);
            tokens.open(Token.OPEN);
            tree.append(cast, expression());
            tokens.expect(Token.AS);
            tree.setMark(cast, type());
            tokens.close(Token.CLOSE);
            return cast;
        }

        private int exists() {
            int exists = tree.make(Kind.EXISTS, tokens.place());
            tokens.expect(Token.EXISTS);
            tokens.open(Token.OPEN);
            tree.append(exists, query());
            tokens.close(Token.CLOSE);
            return exists;
        }

        private int bracketed() {
            int place = tokens.place();
            tokens.open(Token.OPEN);
            int node;
            if (beginsQuery()) {
                node = tree.make(Kind.BRACKETED_QUERY, place);
                tree.append(node, query());
            } else {
                node = expression();
                tree.bracket(node, place);
            }
            tokens.close(Token.CLOSE);
            return node;
        }
    }

    /** The rules of STATEMENT that do not hold one another. */
    private static final class Statements {
        private final Tokens tokens;
        private final Tree tree;
        private final Queries queries;

        Statements(Tokens tokens, Tree tree, Queries queries) {
            this.tokens = tokens;
            this.tree = tree;
            this.queries = queries;
        }

        /** Reads one STATEMENT and tells the root of its TREE; what stands behind it is not looked at. */
        int parse() {
            tree.clear();
            queries.clear();
            switch (tokens.kind()) {
                case CREATE:
                    return tokens.kindAhead(1) == Token.TABLE ? createTable()
                            : tokens.kindAhead(1) == Token.VIEW ? createView() : createIndex();
                case DROP:
                    return drop();
                case INSERT:
                    return insert();
                case UPDATE:
                    return update();
                case DELETE:
                    return delete();
                case BEGIN:
                    return word(Kind.BEGIN);
                case COMMIT:
                    return word(Kind.COMMIT);
                case ROLLBACK:
                    return rollback();
                case SAVEPOINT:
                    return named(Kind.SAVEPOINT);
                case RELEASE:
                    return named(Kind.RELEASE);
                default:
                    return queries.query();
            }
        }

        /** A NODE that begins with the current TOKEN, which has been looked at. */
        private int word(int kind) {
            int node = tree.make(kind, tokens.place());
            tokens.next();
            return node;
        }

        private int named(int kind) {
            int node = word(kind);
            tree.append(node, queries.leaf(Token.NAME));
            return node;
        }

        private int rollback() {
            int rollback = word(Kind.ROLLBACK);
            if (tokens.take(Token.TO)) {
                tree.append(rollback, queries.leaf(Token.NAME));
            }
            return rollback;
        }

        private int ifNotExists() {
            if (!tokens.take(Token.IF)) {
                return 0;
            }
            tokens.expect(Token.NOT);
            tokens.expect(Token.EXISTS);
            return 1;
        }

        private void names(int holder) {
            tokens.open(Token.OPEN);
            queries.list(holder, true);
            tokens.close(Token.CLOSE);
        }

        private int namesOrNone() {
            int node = tree.make(Kind.NAMES, tokens.place());
            if (tokens.is(Token.OPEN)) {
                names(node);
            }
            return node;
        }

        private int createTable() {
            int table = word(Kind.CREATE_TABLE);
            tokens.expect(Token.TABLE);
            tree.setMark(table, ifNotExists());
            tree.append(table, queries.leaf(Token.NAME));
            tokens.open(Token.OPEN);
            boolean more = true;
            for (int turn = 0; more && turn < Tokens.MOST; turn++) {
                tree.append(table, tokens.is(Token.NAME) ? column() : saidOfTable());
                more = tokens.take(Token.COMMA);
            }
            tokens.close(Token.CLOSE);
            return table;
        }

        private int saidOfTable() {
            if (tokens.is(Token.CHECK)) {
                return said();
            }
            if (!tokens.is(Token.PRIMARY) && !tokens.is(Token.UNIQUE)) {
                throw new IllegalArgumentException();
            }
            int key = said();
            names(key);
            return key;
        }

        private int column() {
            int column = tree.make(Kind.COLUMN_MADE, tokens.place());
            tree.append(column, queries.leaf(Token.NAME));
            tree.setMark(column, queries.type());
            int thing = said();
            for (int turn = 0; thing != Tree.NONE && turn < Tokens.MOST; turn++) {
                tree.append(column, thing);
                thing = said();
            }
            return column;
        }

        /** The next thing that is said, NONE if there is none. */
        private int said() {
            int node = Tree.NONE;
            switch (tokens.kind()) {
                case NOT:
                    node = word(Kind.NOT_NULL);
                    tokens.expect(Token.NULL);
                    break;
                case PRIMARY:
                    node = word(Kind.PRIMARY_KEY);
                    tokens.expect(Token.KEY);
                    break;
                case UNIQUE:
                    node = word(Kind.UNIQUE);
                    break;
                case DEFAULT:
                    node = word(Kind.DEFAULT);
                    tree.append(node, constant());
                    break;
                case CHECK:
                    node = word(Kind.CHECK);
                    tokens.open(Token.OPEN);
                    tree.append(node, queries.expression());
                    tokens.close(Token.CLOSE);
                    break;
                case REFERENCES:
                    node = references();
                    break;
                default:
                    break;
            }
            return node;
        }

        private int constant() {
            if (tokens.is(Token.NULL) || tokens.is(Token.QUOTED)) {
                return queries.leaf(tokens.kind());
            }
            int minus = tokens.is(Token.MINUS) ? word(Kind.MINUS) : Tree.NONE;
            int number = queries.leaf(tokens.is(Token.DECIMAL) ? Token.DECIMAL : Token.WHOLE);
            if (minus == Tree.NONE) {
                return number;
            }
            tree.append(minus, number);
            return minus;
        }

        private int references() {
            int references = word(Kind.REFERENCES);
            tree.append(references, queries.leaf(Token.NAME));
            tokens.open(Token.OPEN);
            tree.append(references, queries.leaf(Token.NAME));
            tokens.close(Token.CLOSE);
            if (tokens.take(Token.ON)) {
                tokens.expect(Token.DELETE);
                tree.setMark(references, onDelete());
            }
            return references;
        }

        private int onDelete() {
            if (tokens.take(Token.CASCADE)) {
                return 1;
            }
            if (tokens.take(Token.SET)) {
                tokens.expect(Token.NULL);
                return 2;
            }
            tokens.expect(Token.RESTRICT);
            return 0;
        }

        private int createIndex() {
            int index = word(Kind.CREATE_INDEX);
            int mark = tokens.take(Token.UNIQUE) ? 2 : 0;
            tokens.expect(Token.INDEX);
            tree.setMark(index, mark + ifNotExists());
            tree.append(index, queries.leaf(Token.NAME));
            tokens.expect(Token.ON);
            tree.append(index, queries.leaf(Token.NAME));
            tokens.open(Token.OPEN);
            boolean more = true;
            for (int turn = 0; more && turn < Tokens.MOST; turn++) {
                int name = queries.leaf(Token.NAME);
                tree.setMark(name, tokens.take(Token.DESC) ? 2 : 0);
                tree.append(index, name);
                more = tokens.take(Token.COMMA);
            }
            tokens.close(Token.CLOSE);
            return index;
        }

        private int createView() {
            int view = word(Kind.CREATE_VIEW);
            tokens.expect(Token.VIEW);
            tree.setMark(view, ifNotExists());
            tree.append(view, queries.leaf(Token.NAME));
            int names = namesOrNone();
            tokens.expect(Token.AS);
            tree.append(view, queries.query());
            tree.append(view, names);
            return view;
        }

        private int drop() {
            int drop = word(Kind.DROP);
            int mark = 0;
            if (tokens.take(Token.INDEX)) {
                mark = 1;
            } else if (tokens.take(Token.VIEW)) {
                mark = 2;
            } else {
                tokens.expect(Token.TABLE);
            }
            if (tokens.take(Token.IF)) {
                tokens.expect(Token.EXISTS);
                mark += 4;
            }
            tree.setMark(drop, mark);
            tree.append(drop, queries.leaf(Token.NAME));
            return drop;
        }

        private int insert() {
            int insert = word(Kind.INSERT);
            if (tokens.take(Token.OR)) {
                tree.setMark(insert, orElse());
            }
            tokens.expect(Token.INTO);
            tree.append(insert, queries.leaf(Token.NAME));
            tree.append(insert, namesOrNone());
            tree.append(insert, tokens.is(Token.VALUES) ? values() : queries.query());
            return insert;
        }

        private int orElse() {
            if (tokens.take(Token.IGNORE)) {
                return 1;
            }
            tokens.expect(Token.REPLACE);
            return 2;
        }

        private int values() {
            int values = word(Kind.VALUES);
            boolean more = true;
            for (int turn = 0; more && turn < Tokens.MOST; turn++) {
                int row = tree.make(Kind.ROW, tokens.place());
                tokens.open(Token.OPEN);
                queries.list(row, false);
                tokens.close(Token.CLOSE);
                tree.append(values, row);
                more = tokens.take(Token.COMMA);
            }
            return values;
        }

        private int update() {
            int update = word(Kind.UPDATE);
            tree.append(update, queries.leaf(Token.NAME));
            tokens.expect(Token.SET);
            boolean more = true;
            for (int turn = 0; more && turn < Tokens.MOST; turn++) {
                int set = tree.make(Kind.SET, tokens.place());
                tree.append(set, queries.leaf(Token.NAME));
                tokens.expect(Token.EQUAL);
                tree.append(set, queries.expression());
                tree.append(update, set);
                more = tokens.take(Token.COMMA);
            }
            whereOrNone(update);
            return update;
        }

        private int delete() {
            int delete = word(Kind.DELETE);
            tokens.expect(Token.FROM);
            tree.append(delete, queries.leaf(Token.NAME));
            whereOrNone(delete);
            return delete;
        }

        private void whereOrNone(int holder) {
            if (tokens.is(Token.WHERE)) {
                tree.append(holder, queries.clause(Kind.WHERE));
            }
        }
    }
}
