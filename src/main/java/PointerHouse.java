import java.util.Arrays;

/**
 * A small C that can't go wrong. A text is fed in, built into a program (parsed, its heads and its
 * blocks checked, and turned into instructions on the way), and run step by step in a memory of pages.
 */
public final class PointerHouse {
    public static final int NONE = -1;

    private static final int MAX_TEXT = 4000;
    private static final int FED = 20;
    private static final int MAX_ITEMS = 24;
    private static final int MAX_PARTS = 8;
    private static final int MAX_PARAMETERS = 6;
    private static final int MAX_ARGUMENTS = 8;
    private static final int MAX_RS = 3;
    private static final int MAX_WHERE = 3;
    private static final int MAX_VARS = 20;
    private static final int MAX_REGION_STEPS = 8;
    private static final int MAX_DEPTH = 20;
    private static final int MAX_TYPES = 6;
    private static final int MAX_STEPS_A_RUN = 500;
    private static final int MAX_INPUTS = 100;
    private static final int MAX_PRINTED = 300;

    /* Tokens: what is no word and no sign, the words in the order of WORDS, the signs in that of SIGNS. */
    private static final String WORDS =
            "struct union fun dead where var if else while return print region close try catch throw int null new cell row nn size is read caught ";
    private static final String SIGNS = "{}()[];,:.=<>+-*/%&@?^";
    private static final int END = 0;
    private static final int BAD = 1;
    private static final int NAME = 2;
    private static final int TITLE = 3;
    private static final int REGION = 4;
    private static final int NUMBER = 5;
    private static final int FIRST_WORD = 10;
    private static final int STRUCT = 10;
    private static final int UNION = 11;
    private static final int FUN = 12;
    private static final int DEAD = 13;
    private static final int WHERE = 14;
    private static final int VAR = 15;
    private static final int IF = 16;
    private static final int ELSE = 17;
    private static final int WHILE = 18;
    private static final int RETURN = 19;
    private static final int PRINT = 20;
    private static final int REGION_STEP = 21;
    private static final int CLOSE = 22;
    private static final int TRY = 23;
    private static final int CATCH = 24;
    private static final int THROW = 25;
    private static final int INT_WORD = 26;
    private static final int NULL_WORD = 27;
    private static final int NEW = 28;
    private static final int CELL = 29;
    private static final int ROW = 30;
    private static final int NN = 31;
    private static final int SIZE = 32;
    private static final int IS = 33;
    private static final int READ = 34;
    private static final int CAUGHT = 35;
    private static final int WORD_COUNT = 26;
    private static final int FIRST_SIGN = 40;
    private static final int BRACE = 40;
    private static final int BRACE_END = 41;
    private static final int PAREN = 42;
    private static final int PAREN_END = 43;
    private static final int BRACKET = 44;
    private static final int BRACKET_END = 45;
    private static final int SEMI = 46;
    private static final int COMMA = 47;
    private static final int COLON = 48;
    private static final int DOT = 49;
    private static final int ASSIGN = 50;
    private static final int LESS = 51;
    private static final int GREATER = 52;
    private static final int PLUS = 53;
    private static final int MINUS = 54;
    private static final int STAR = 55;
    private static final int SLASH = 56;
    private static final int PERCENT = 57;
    private static final int AMPERSAND = 58;
    private static final int AT = 59;
    private static final int QUESTION = 60;
    private static final int CARET = 61;
    private static final int EQUAL = 62;

    /* Nodes bear the kind of the token that tells them; these two have none of their own. */
    private static final int CALL = 63;
    private static final int EVALUATE = 64;

    /* Instructions. */
    private static final int DO_STEP = 1;
    private static final int DO_PUSH = 2;
    private static final int DO_LOAD = 3;
    private static final int DO_SAVE = 4;
    private static final int DO_DROP = 5;
    private static final int DO_READ = 6;
    private static final int DO_PRINT = 7;
    private static final int DO_SIZE = 8;
    private static final int DO_MOVE = 9;
    private static final int LAST_SIMPLE = 9;
    private static final int DO_ADD = 10;
    private static final int DO_SUBTRACT = 11;
    private static final int DO_MULTIPLY = 12;
    private static final int DO_DIVIDE = 13;
    private static final int DO_REMAINDER = 14;
    private static final int DO_EQUAL = 15;
    private static final int DO_LESS = 16;
    private static final int LAST_NUMERIC = 16;
    private static final int DO_GET = 20;
    private static final int DO_GET_TAGGED = 21;
    private static final int DO_IS = 22;
    private static final int DO_SOLID = 23;
    private static final int DO_ADDRESS = 24;
    private static final int DO_PUT = 25;
    private static final int DO_PUT_TAGGED = 26;
    private static final int LAST_POINTED = 26;
    private static final int DO_GET_AT = 30;
    private static final int DO_ADDRESS_AT = 31;
    private static final int DO_PUT_AT = 32;
    private static final int LAST_INDEXED = 32;
    private static final int DO_MAKE = 40;
    private static final int DO_MAKE_TAGGED = 41;
    private static final int DO_MAKE_ROW = 42;
    private static final int LAST_MAKING = 42;
    private static final int DO_JUMP = 50;
    private static final int DO_JUMP_ZERO = 51;
    private static final int DO_OPEN = 52;
    private static final int DO_CLOSE = 53;
    private static final int DO_TRY = 54;
    private static final int DO_END_TRY = 55;
    private static final int DO_THROW = 56;
    private static final int DO_CALL = 57;
    private static final int DO_RETURN = 58;

    /* What is done with the place that an EXPR tells. */
    private static final int FETCH = 0;
    private static final int POINT = 1;
    private static final int STORE = 2;

    /* What program() counts. */
    private static final int COUNT_TITLES = 0;
    private static final int COUNT_FUNS = 1;
    private static final int COUNT_VARS = 2;
    private static final int COUNT_NULLS = 3;
    private static final int COUNT_BOUNDS = 4;
    private static final int COUNT_TAGS = 5;
    private static final int COUNT_MAKES = 6;
    private static final int COUNTS = 7;

    private final char[] text;
    private int length;
    private boolean built;
    private boolean ready;
    private final Source source;
    private final Items items;
    private final Code code;
    private final Parser parser;
    private final Heads heads;
    private final Steps steps;
    private final Machine machine;

    public PointerHouse() {
        text = new char[MAX_TEXT];
        source = new Source();
        items = new Items();
        code = new Code();
        parser = new Parser(source, items, code);
        Types types = new Types();
        Scope scope = new Scope(source, items, types);
        heads = new Heads(source, items, types, scope, code);
        Exprs exprs = new Exprs(source, items, heads, code);
        steps = new Steps(source, items, heads, exprs, code);
        machine = new Machine(code, items);
    }

    public int feed(int a, int b, int c, int d, int e) {
        if (length + FED > MAX_TEXT) {
            return NONE;
        }
        addFour(a);
        addFour(b);
        addFour(c);
        addFour(d);
        addFour(e);
        return length;
    }

    private void addFour(int bytes) {
        for (int shift = 24; shift >= 0 && length < text.length; shift -= 8) {
            text[length] = (char) ((bytes >>> shift) & 255);
            length++;
        }
    }

    public int end(int n) {
        if (n < 0 || n > length) {
            return NONE;
        }
        length = n;
        return n;
    }

    public int build() {
        built = true;
        machine.halt();
        code.clear();
        source.scan(text, length);
        parser.parse();
        if (code.isSound()) {
            heads.check();
        }
        if (code.isSound()) {
            steps.check();
        }
        length = 0;
        ready = code.isSound();
        return ready ? items.count : NONE;
    }

    public int fault(int what) {
        if (!built || what < 0 || what > 1) {
            return NONE;
        }
        return what == 0 ? code.faultKind : code.faultPlace;
    }

    public int program(int what) {
        if (!ready || what < 0 || what >= COUNTS) {
            return NONE;
        }
        return code.counts[what];
    }

    public boolean start(int pages, int words) {
        if (!ready || pages < 1 || pages > Memory.MAX_PAGES || words < 4 || words > Memory.MAX_WORDS) {
            return false;
        }
        machine.begin(pages, words);
        return true;
    }

    public int input(int v) {
        return machine.takeInput(v);
    }

    public int run(int n) {
        if (n < 1 || n > MAX_STEPS_A_RUN || machine.state != Machine.GOES_ON) {
            return NONE;
        }
        return machine.doSteps(n);
    }

    public int state(int what) {
        switch (what) {
            case 0:
                return machine.state;
            case 1:
                return machine.state == Machine.FAILED ? machine.error : 0;
            case 2:
                return machine.placeOfStep();
            default:
                return NONE;
        }
    }

    public int world(int what) {
        if (what < 0 || what > 8) {
            return NONE;
        }
        return machine.state == Machine.NOTHING_RUNS ? 0 : machine.tell(what);
    }

    public int region(int i, int what) {
        if (machine.state == Machine.NOTHING_RUNS) {
            return NONE;
        }
        return machine.memory.tellRegion(i, what);
    }

    public int printed(int k) {
        if (machine.state == Machine.NOTHING_RUNS) {
            return 0;
        }
        return machine.printedAt(k);
    }

    /** The tokens of the text, and the tree of nodes over them; node 0 is none. */
    private static final class Source {
        static final int MAX_NODES = MAX_TEXT + 8;

        final int[] kind = new int[MAX_NODES];
        final int[] tok = new int[MAX_NODES];
        /* The next STEP of a BLOCK, TERM of an EXPR, or what follows in a TERM. */
        final int[] next = new int[MAX_NODES];
        /* The next ARGUMENT. */
        final int[] peer = new int[MAX_NODES];
        /* The operator ahead of a TERM. */
        final int[] op = new int[MAX_NODES];
        final int[] left = new int[MAX_NODES];
        final int[] right = new int[MAX_NODES];
        /* What follows the PRIMARY of a TERM; the second BLOCK of a STEP. */
        final int[] tail = new int[MAX_NODES];
        private int nodes;
        private char[] text;
        private int length;
        private final int[] tokenKind = new int[MAX_TEXT + 1];
        private final int[] tokenStart = new int[MAX_TEXT + 1];
        private final long[] tokenName = new long[MAX_TEXT + 1];
        private int tokens;
        private final long[] words = new long[WORD_COUNT];

        Source() {
            int word = 0;
            int from = 0;
            for (int i = 0; i < WORDS.length() && word < words.length; i++) {
                if (WORDS.charAt(i) == ' ') {
                    words[word] = packed(WORDS.substring(from, i).toCharArray(), 0, i - from);
                    word++;
                    from = i + 1;
                }
            }
        }

        /** A name of at most eight characters as one number: alike just if the names are. */
        private static long packed(char[] from, int start, int stop) {
            long name = 0;
            for (int i = start; i < stop && i < from.length; i++) {
                name = name << 8 | from[i];
            }
            return name;
        }

        void scan(char[] from, int count) {
            text = from;
            length = Math.min(count, from.length);
            tokens = 0;
            int at = 0;
            while (at < length) {
                at = Math.max(at + 1, scanToken(at));
            }
            tokenKind[tokens] = END;
            tokenStart[tokens] = length;
            nodes = 0;
            addNode(END, 0);
        }

        private int scanToken(int at) {
            char c = text[at];
            if (c == ' ') {
                return at + 1;
            }
            if (c == '\'' || isLetterOrDigit(c)) {
                return scanRow(at);
            }
            if (c == '=' && at + 1 < length && text[at + 1] == '=') {
                addToken(EQUAL, at, 0);
                return at + 2;
            }
            int sign = SIGNS.indexOf(c);
            addToken(sign < 0 ? BAD : FIRST_SIGN + sign, at, 0);
            return at + 1;
        }

        private int scanRow(int at) {
            int stop = at + 1;
            while (stop < length && isLetterOrDigit(text[stop])) {
                stop++;
            }
            if (text[at] == '\'') {
                addToken(kindOfRegion(at + 1, stop), at, packed(text, at + 1, stop));
            } else if (isDigit(text[at])) {
                boolean fits = stop - at <= 9 && isAllOf(at, stop, false);
                addToken(fits ? NUMBER : BAD, at, fits ? valueOf(at, stop) : 0);
            } else {
                long name = packed(text, at, stop);
                addToken(kindOfName(at, stop, name), at, name);
            }
            return stop;
        }

        private int kindOfRegion(int from, int stop) {
            boolean heap = stop - from == 1 && text[from] == 'H';
            boolean named = stop > from && stop - from <= 8 && isSmall(text[from]) && isAllOf(from, stop, true);
            return heap || named ? REGION : BAD;
        }

        private int kindOfName(int from, int stop, long name) {
            if (stop - from > 8) {
                return BAD;
            }
            if (!isSmall(text[from])) {
                return TITLE;
            }
            for (int i = 0; i < words.length; i++) {
                if (words[i] == name) {
                    return FIRST_WORD + i;
                }
            }
            return isAllOf(from, stop, true) ? NAME : BAD;
        }

        private long valueOf(int from, int stop) {
            long value = 0;
            for (int i = from; i < stop; i++) {
                value = value * 10 + (text[i] - '0');
            }
            return value;
        }

        private boolean isAllOf(int from, int stop, boolean small) {
            for (int i = from; i < stop; i++) {
                if (!isDigit(text[i]) && !(small && isSmall(text[i]))) {
                    return false;
                }
            }
            return true;
        }

        private static boolean isDigit(char c) {
            return c >= '0' && c <= '9';
        }

        private static boolean isSmall(char c) {
            return c >= 'a' && c <= 'z';
        }

        private static boolean isLetterOrDigit(char c) {
            return isDigit(c) || isSmall(c) || c >= 'A' && c <= 'Z';
        }

        private void addToken(int tokenKindToAdd, int at, long name) {
            if (tokens < MAX_TEXT) {
                tokenKind[tokens] = tokenKindToAdd;
                tokenStart[tokens] = at;
                tokenName[tokens] = name;
                tokens++;
            }
        }

        int kindAt(int token) {
            return token < 0 || token >= tokens ? END : tokenKind[token];
        }

        int startOf(int token) {
            return token < 0 || token >= tokens ? length : tokenStart[token];
        }

        long nameAt(int token) {
            return token < 0 || token >= tokens ? 0 : tokenName[token];
        }

        int addNode(int nodeKind, int token) {
            if (nodes >= MAX_NODES) {
                return 0;
            }
            kind[nodes] = nodeKind;
            tok[nodes] = token;
            next[nodes] = 0;
            peer[nodes] = 0;
            op[nodes] = 0;
            left[nodes] = 0;
            right[nodes] = 0;
            tail[nodes] = 0;
            nodes++;
            return nodes - 1;
        }

        /** An EXPR without the parentheses around all of it. */
        int bare(int first) {
            int e = first;
            for (int i = 0; i < MAX_DEPTH && isBareParen(e) && next[e] == 0; i++) {
                e = right[e];
            }
            return e;
        }

        /** A TERM without the parentheses around it; 0 if they hold several TERMS. */
        int bareTerm(int term) {
            if (!isBareParen(term)) {
                return term;
            }
            int inner = bare(right[term]);
            return next[inner] == 0 ? inner : 0;
        }

        private boolean isBareParen(int term) {
            return kind[term] == PAREN && tail[term] == 0;
        }

        /** The last of what follows the PRIMARY of a TERM; 0 if nothing does. */
        int lastTail(int term) {
            int last = 0;
            int t = tail[term];
            for (int i = 0; t != 0 && i < MAX_NODES; i++) {
                last = t;
                t = next[t];
            }
            return last;
        }

        /** Where an EXPR or TERM begins, behind its parentheses. */
        int beginOf(int term) {
            int t = term;
            for (int i = 0; i < MAX_DEPTH && kind[t] == PAREN; i++) {
                t = right[t];
            }
            return startOf(tok[t]);
        }

        int countPeers(int first) {
            int count = 0;
            int e = first;
            for (int i = 0; e != 0 && i < MAX_NODES; i++) {
                count++;
                e = peer[e];
            }
            return count;
        }

        /** How many REGIONS stand from this token on. */
        int countRegions(int token) {
            int count = 0;
            while (count < MAX_RS && kindAt(token + count) == REGION) {
                count++;
            }
            return count;
        }
    }

    /** The structs, unions and funs: where their parts stand in the text, and what the heads tell. */
    private static final class Items {
        int count;
        final int[] kind = new int[MAX_ITEMS];
        final int[] nameTok = new int[MAX_ITEMS];
        final long[] name = new long[MAX_ITEMS];
        final int[] rsCount = new int[MAX_ITEMS];
        final int[] partCount = new int[MAX_ITEMS];
        final int[] typeTok = new int[MAX_ITEMS];
        final int[] deadTok = new int[MAX_ITEMS];
        final int[] whereTok = new int[MAX_ITEMS];
        final int[] body = new int[MAX_ITEMS];
        final int[] endTok = new int[MAX_ITEMS];
        final int[] gives = new int[MAX_ITEMS];
        final int[] dead = new int[MAX_ITEMS];
        final int[] above = new int[MAX_ITEMS];
        final int[] words = new int[MAX_ITEMS];
        final int[] entry = new int[MAX_ITEMS];
        private final int[] partTok = new int[MAX_ITEMS * MAX_PARTS];
        private final int[] partType = new int[MAX_ITEMS * MAX_PARTS];
        private final int[] partPlace = new int[MAX_ITEMS * MAX_PARTS];
        private final int[] pairCount = new int[MAX_ITEMS];
        private final int[] pairs = new int[MAX_ITEMS * MAX_WHERE];

        int tokOfPart(int item, int part) {
            return isPart(item, part) ? partTok[item * MAX_PARTS + part] : 0;
        }

        int typeOfPart(int item, int part) {
            return isPart(item, part) ? partType[item * MAX_PARTS + part] : Types.INT;
        }

        int placeOfPart(int item, int part) {
            return isPart(item, part) ? partPlace[item * MAX_PARTS + part] : 0;
        }

        void addPart(int item, int token) {
            if (partCount[item] < MAX_PARTS) {
                partTok[item * MAX_PARTS + partCount[item]] = token;
                partCount[item]++;
            }
        }

        void setPart(int item, int part, int type, int place) {
            if (isPart(item, part)) {
                partType[item * MAX_PARTS + part] = type;
                partPlace[item * MAX_PARTS + part] = place;
            }
        }

        void addPair(int item, int upper, int lower) {
            if (pairCount[item] < MAX_WHERE) {
                pairs[item * MAX_WHERE + pairCount[item]] = upper << 2 | lower;
                pairCount[item]++;
            }
        }

        /** What stands ahead of the k-th > behind where; 0 if there is none such. */
        int upperOf(int item, int k) {
            return k < pairCount[item] ? pairs[item * MAX_WHERE + k] >> 2 : 0;
        }

        int lowerOf(int item, int k) {
            return k < pairCount[item] ? pairs[item * MAX_WHERE + k] & 3 : 0;
        }

        private boolean isPart(int item, int part) {
            return item >= 0 && item < MAX_ITEMS && part >= 0 && part < MAX_PARTS;
        }

        /** The first struct or union (or fun) of that name; NONE without one. */
        int find(long wanted, boolean fun) {
            for (int i = 0; i < count; i++) {
                boolean alike = fun ? kind[i] == FUN : kind[i] != FUN;
                if (alike && name[i] == wanted) {
                    return i;
                }
            }
            return NONE;
        }
    }

    /** The grammar. Behind the first token that can't stand, nothing is seen any more. */
    private static final class Parser {
        private final Source source;
        private final Items items;
        private final Code code;
        private int at;
        /* The kind of the token at hand; END once it has stopped. */
        private int look;
        private boolean stopped;
        private int vars;
        private int regionSteps;

        Parser(Source source, Items items, Code code) {
            this.source = source;
            this.items = items;
            this.code = code;
        }

        void parse() {
            at = 0;
            look = source.kindAt(at);
            stopped = false;
            items.count = 0;
            for (int i = 0; i <= MAX_ITEMS && !stopped && (i == 0 || look != END); i++) {
                parseHead(i);
                if (!stopped && items.kind[i] == FUN) {
                    parseFun(i);
                } else if (!stopped) {
                    parseFields(i);
                }
            }
        }

        private void advance() {
            at++;
            look = stopped ? END : source.kindAt(at);
        }

        private boolean accept(int kind) {
            if (look != kind) {
                return false;
            }
            advance();
            return true;
        }

        private void need(int kind) {
            if (look == kind) {
                advance();
            } else {
                stop();
            }
        }

        private void stop() {
            stopped = true;
            look = END;
            code.note(1, source.startOf(at));
        }

        private void parseHead(int item) {
            boolean fun = look == FUN;
            if (item >= MAX_ITEMS || !fun && look != STRUCT && look != UNION) {
                stop();
                return;
            }
            items.kind[item] = look;
            advance();
            items.nameTok[item] = at;
            items.name[item] = source.nameAt(at);
            need(fun ? NAME : TITLE);
            items.rsCount[item] = parseRegions(MAX_RS);
            items.partCount[item] = 0;
            items.typeTok[item] = 0;
            items.deadTok[item] = 0;
            items.whereTok[item] = 0;
            items.count = item + 1;
        }

        private int parseRegions(int most) {
            int count = 0;
            while (count < most && look == REGION) {
                advance();
                count++;
            }
            return count;
        }

        private void parseFields(int item) {
            need(BRACE);
            for (int k = 0; k <= MAX_PARTS && !stopped && (k == 0 || look != BRACE_END); k++) {
                if (k == MAX_PARTS) {
                    stop();
                }
                parsePart(item);
                need(SEMI);
            }
            need(BRACE_END);
            need(SEMI);
        }

        private void parsePart(int item) {
            items.addPart(item, at);
            need(NAME);
            need(COLON);
            parseType(1, false);
        }

        private void parseFun(int item) {
            vars = 0;
            regionSteps = 0;
            need(PAREN);
            parseParameters(item);
            if (accept(COLON)) {
                items.typeTok[item] = at;
                parseType(1, false);
            }
            if (accept(DEAD)) {
                items.deadTok[item] = at - 1;
                need(REGION);
                parseRegions(MAX_RS - 1);
            }
            if (accept(WHERE)) {
                items.whereTok[item] = at - 1;
                parseWhere();
            }
            items.body[item] = parseBlock(1);
            items.endTok[item] = at - 1;
        }

        private void parseParameters(int item) {
            boolean more = look != PAREN_END;
            for (int k = 0; k <= MAX_PARAMETERS && more; k++) {
                if (k == MAX_PARAMETERS) {
                    stop();
                }
                vars++;
                parsePart(item);
                more = accept(COMMA);
            }
            need(PAREN_END);
        }

        private void parseWhere() {
            boolean more = true;
            for (int k = 0; k <= MAX_WHERE && more; k++) {
                if (k == MAX_WHERE) {
                    stop();
                }
                need(REGION);
                need(GREATER);
                need(REGION);
                more = accept(COMMA);
            }
        }

        private void parseType(int depth, boolean cell) {
            if (depth > MAX_TYPES) {
                stop();
            } else if (cell && accept(TITLE)) {
                parseRegions(MAX_RS);
            } else if (accept(AT) || accept(STAR)) {
                need(REGION);
                parseType(depth + 1, true);
            } else if (accept(QUESTION)) {
                need(REGION);
                parseType(depth + 1, false);
            } else {
                need(INT_WORD);
            }
        }

        private int parseBlock(int depth) {
            if (depth > MAX_DEPTH) {
                stop();
                return 0;
            }
            need(BRACE);
            int first = 0;
            int last = 0;
            for (int i = 0; i < MAX_TEXT && !stopped && look != BRACE_END; i++) {
                int step = parseStep(depth);
                if (last == 0) {
                    first = step;
                } else {
                    source.next[last] = step;
                }
                last = step;
            }
            need(BRACE_END);
            return first;
        }

        private int parseStep(int depth) {
            int kind = look;
            switch (kind) {
                case VAR:
                    return parseVar(depth);
                case IF:
                case WHILE:
                    return parseChoice(kind, depth);
                case REGION_STEP:
                case CLOSE:
                    return parseRegionStep(kind, depth);
                case TRY:
                    return parseTry(depth);
                case RETURN:
                case PRINT:
                case THROW:
                    return parseWordStep(kind, depth);
                default:
                    return parsePlain(depth);
            }
        }

        private int parseVar(int depth) {
            int step = source.addNode(VAR, at);
            advance();
            if (vars == MAX_VARS) {
                stop();
            }
            vars++;
            need(NAME);
            need(COLON);
            parseType(1, false);
            if (accept(ASSIGN)) {
                source.right[step] = parseExpr(depth + 1);
            }
            need(SEMI);
            return step;
        }

        private int parseChoice(int kind, int depth) {
            int step = source.addNode(kind, at);
            advance();
            source.left[step] = parseExpr(depth + 1);
            source.right[step] = parseBlock(depth + 1);
            if (kind == IF && accept(ELSE)) {
                source.tail[step] = parseBlock(depth + 1);
            }
            return step;
        }

        private int parseRegionStep(int kind, int depth) {
            if (kind == REGION_STEP && regionSteps == MAX_REGION_STEPS) {
                stop();
            }
            int step = source.addNode(kind, at);
            advance();
            need(REGION);
            if (kind == REGION_STEP) {
                regionSteps++;
                source.right[step] = parseBlock(depth + 1);
            } else {
                need(SEMI);
            }
            return step;
        }

        private int parseTry(int depth) {
            int step = source.addNode(TRY, at);
            advance();
            source.right[step] = parseBlock(depth + 1);
            need(CATCH);
            source.tail[step] = parseBlock(depth + 1);
            return step;
        }

        private int parseWordStep(int kind, int depth) {
            int step = source.addNode(kind, at);
            advance();
            if (kind != RETURN || look != SEMI) {
                source.right[step] = parseExpr(depth + 1);
            }
            need(SEMI);
            return step;
        }

        private int parsePlain(int depth) {
            int step = source.addNode(EVALUATE, at);
            int first = parseExpr(depth + 1);
            if (accept(ASSIGN)) {
                source.kind[step] = ASSIGN;
                source.left[step] = first;
                source.right[step] = parseExpr(depth + 1);
            } else {
                source.right[step] = first;
            }
            need(SEMI);
            return step;
        }

        private int parseExpr(int depth) {
            int first = parseTerm(depth);
            int last = first;
            for (int i = 0; i < MAX_TEXT && seesOperator(); i++) {
                int op = look;
                advance();
                int term = parseTerm(depth);
                source.op[term] = op;
                source.next[last] = term;
                last = term;
            }
            return first;
        }

        private boolean seesOperator() {
            return look >= PLUS && look <= PERCENT || look == EQUAL || look == LESS;
        }

        private int parseTerm(int depth) {
            if (depth > MAX_DEPTH) {
                stop();
                return 0;
            }
            int term = parsePrimary(depth);
            int last = 0;
            for (int i = 0; i < MAX_TEXT && (look == DOT || look == BRACKET || look == CARET || look == IS); i++) {
                int link = parseTail(depth);
                if (last == 0) {
                    source.tail[term] = link;
                } else {
                    source.next[last] = link;
                }
                last = link;
            }
            return term;
        }

        private int parseTail(int depth) {
            int kind = look;
            int link = source.addNode(kind, at);
            advance();
            if (kind == BRACKET) {
                source.right[link] = parseExpr(depth + 1);
                need(BRACKET_END);
            } else if (kind != CARET) {
                need(NAME);
            }
            return link;
        }

        private int parsePrimary(int depth) {
            if (stopped) {
                return 0;
            }
            int kind = look;
            int term = source.addNode(kind, at);
            switch (kind) {
                case NUMBER:
                case NULL_WORD:
                case READ:
                case CAUGHT:
                    advance();
                    break;
                case NAME:
                    advance();
                    if (look == REGION || look == PAREN) {
                        source.kind[term] = CALL;
                        source.left[term] = parseRegions(MAX_RS);
                        need(PAREN);
                        source.right[term] = parseArguments(depth + 1, PAREN_END);
                    }
                    break;
                case NEW:
                    advance();
                    parseNew(term, depth);
                    break;
                case CELL:
                case ROW:
                    advance();
                    need(REGION);
                    parseMaking(term, kind, depth);
                    break;
                case AMPERSAND:
                    advance();
                    source.right[term] = parseTerm(depth + 1);
                    break;
                case NN:
                case SIZE:
                    advance();
                    parseMaking(term, kind, depth);
                    break;
                case PAREN:
                    parseMaking(term, kind, depth);
                    break;
                default:
                    stop();
                    break;
            }
            return term;
        }

        private void parseNew(int term, int depth) {
            need(REGION);
            need(TITLE);
            source.left[term] = parseRegions(MAX_RS);
            if (accept(DOT)) {
                need(NAME);
                parseMaking(term, NEW, depth);
            } else {
                need(BRACE);
                source.right[term] = parseArguments(depth + 1, BRACE_END);
            }
        }

        /** An EXPR in parentheses, of a row two. */
        private void parseMaking(int term, int kind, int depth) {
            need(PAREN);
            int inner = parseExpr(depth + 1);
            source.right[term] = inner;
            if (kind == ROW) {
                need(COMMA);
                source.peer[inner] = parseExpr(depth + 1);
            }
            need(PAREN_END);
        }

        private int parseArguments(int depth, int close) {
            if (accept(close)) {
                return 0;
            }
            int first = parseExpr(depth);
            int last = first;
            for (int i = 1; i <= MAX_ARGUMENTS && accept(COMMA); i++) {
                if (i == MAX_ARGUMENTS) {
                    stop();
                }
                int argument = parseExpr(depth);
                source.peer[last] = argument;
                last = argument;
            }
            need(close);
            return first;
        }
    }

    /**
     * TYPES, each kept once, so that alike are just those with the same number. A pointer has a kind, a
     * REGION and what is behind it; a THING is a TITLE with its REGIONS, packed four bits each.
     */
    private static final class Types {
        static final int NOTHING = 0;
        static final int INT = 1;
        static final int NULL = 2;
        static final int SOLID = 3;
        static final int LOOSE = 4;
        static final int ROWS = 5;
        static final int THING = 6;
        private static final int FIXED = 3;
        /* A text of 4000 characters can't ask for more than three TYPES a character. */
        private static final int SLOTS = 16384;
        private static final long SPREAD = 0x9E3779B97F4A7C15L;
        private static final int ERA_BIT = 24;

        private final long[] slots = new long[SLOTS];
        private long era;

        /** What an earlier build has kept counts as free from now on. */
        void clear() {
            era++;
        }

        private int keep(long told) {
            long key = told | era << ERA_BIT;
            int slot = (int) (told * SPREAD >>> 50);
            for (int i = 0; i < SLOTS; i++) {
                if (slots[slot] >>> ERA_BIT != era) {
                    slots[slot] = key;
                }
                if (slots[slot] == key) {
                    return slot + FIXED;
                }
                slot = slot + 1 & SLOTS - 1;
            }
            return INT;
        }

        int pointer(int kind, int region, int behind) {
            return keep(kind | region << 3 | behind << 7);
        }

        int thing(int item, int regions) {
            return keep(THING | item << 3 | regions << 8);
        }

        private int keyOf(int type) {
            return type < FIXED || type >= SLOTS + FIXED ? 0 : (int) slots[type - FIXED] & (1 << ERA_BIT) - 1;
        }

        int kindOf(int type) {
            return type < FIXED ? type : keyOf(type) & 7;
        }

        /** Of a pointer or row. */
        int regionOf(int type) {
            return keyOf(type) >> 3 & 15;
        }

        /** Of a pointer or row. */
        int behind(int type) {
            return keyOf(type) >> 7;
        }

        /** The struct or union behind a pointer; NONE without one. */
        int titleBehind(int type) {
            int thing = isPointed(type) ? keyOf(behind(type)) : 0;
            return (thing & 7) == THING ? thing >> 3 & 31 : NONE;
        }

        /** The REGIONS of a struct or union behind a pointer. */
        int regionsBehind(int type) {
            return keyOf(behind(type)) >> 8 & 4095;
        }

        boolean isPointed(int type) {
            int kind = keyOf(type) & 7;
            return kind == SOLID || kind == LOOSE;
        }

        int wordsOf(int type) {
            return type == NOTHING ? 0 : (keyOf(type) & 7) == ROWS ? 3 : 1;
        }

        /** The TYPE with these REGIONS for the RS of its head. */
        int told(int type, int regions, int depth) {
            int kind = kindOf(type);
            if (kind <= NULL || depth > MAX_TYPES) {
                return type;
            }
            if (kind == THING) {
                int key = keyOf(type);
                return thing(key >> 3 & 31, toldAll(key >> 8 & 4095, regions));
            }
            return pointer(kind, toldOne(regionOf(type), regions), told(behind(type), regions, depth + 1));
        }

        private static int toldAll(int inner, int regions) {
            int all = 0;
            for (int k = 0; k < MAX_RS; k++) {
                all |= toldOne(inner >> 4 * k & 15, regions) << 4 * k;
            }
            return all;
        }

        static int toldOne(int region, int regions) {
            return region < 1 || region > MAX_RS ? region : regions >> 4 * (region - 1) & 15;
        }
    }

    /**
     * What can be seen at a place of a fun, and what is known there. REGIONS: 0 is 'H, 1 to 3 are the RS,
     * from 4 on those of the region STEPS around, the outer ones first. FLOW has a bit for each VAR that
     * is SET, each that is KNOWN, each REGION that is LIVE, and for REACHED.
     */
    private static final class Scope {
        static final int HEAP = 0;
        static final int FIRST_STEP = 4;
        static final int REGIONS = FIRST_STEP + MAX_REGION_STEPS;
        static final int CATCH_SLOTS = 3 * MAX_VARS;
        private static final long HEAP_NAME = 'H';
        private static final int KNOWN_BIT = 20;
        private static final int LIVE_BIT = 40;
        private static final long LIVE_BITS = 4095L << LIVE_BIT;
        private static final long REACHED = 1L << 52;

        private final Source source;
        private final Items items;
        private final Types types;
        int item;
        private int varCount;
        private final long[] varName = new long[MAX_VARS];
        private final int[] varType = new int[MAX_VARS];
        private final int[] varSlot = new int[MAX_VARS + 1];
        private int regionStop;
        private final long[] regionName = new long[REGIONS];
        private final int[] regionTries = new int[REGIONS];
        int tries;
        int catches;
        long flow;

        Scope(Source source, Items items, Types types) {
            this.source = source;
            this.items = items;
            this.types = types;
        }

        void enterHead(int entered) {
            item = entered;
            varCount = 0;
            regionStop = FIRST_STEP;
            tries = 0;
            catches = 0;
            flow = 0;
            for (int k = 1; k <= MAX_RS; k++) {
                regionName[k] = k <= items.rsCount[item] ? source.nameAt(items.nameTok[item] + k) : 0;
            }
        }

        void enterFun(int entered) {
            enterHead(entered);
            flow = REACHED | 1L << LIVE_BIT;
            for (int k = 1; k <= items.rsCount[item]; k++) {
                setLive(k, (items.dead[item] >> k & 1) == 0);
            }
            for (int k = 0; k < items.partCount[item]; k++) {
                give(addVar(source.nameAt(items.tokOfPart(item, k)), items.typeOfPart(item, k)), false);
            }
        }

        int findRegion(long name) {
            if (name == HEAP_NAME) {
                return HEAP;
            }
            for (int r = 1; r < regionStop; r++) {
                if (regionName[r] == name) {
                    return r;
                }
            }
            return NONE;
        }

        int openRegion(long name) {
            if (regionStop >= REGIONS) {
                return HEAP;
            }
            int region = regionStop;
            regionName[region] = name;
            regionTries[region] = tries;
            regionStop++;
            setLive(region, true);
            return region;
        }

        void leaveRegion(int region) {
            if (region >= FIRST_STEP) {
                setLive(region, false);
                regionStop = region;
            }
        }

        /** Whether close may end this REGION here. */
        boolean mayClose(int region) {
            if (region < FIRST_STEP || region >= regionStop || !isLive(region)) {
                return false;
            }
            boolean innerLive = false;
            for (int r = region + 1; r < regionStop; r++) {
                innerLive |= isLive(r);
            }
            return !innerLive && regionTries[region] == tries;
        }

        boolean isLive(int region) {
            return (flow >> LIVE_BIT + region & 1) != 0;
        }

        void setLive(int region, boolean live) {
            long bit = 1L << LIVE_BIT + region;
            flow = live ? flow | bit : flow & ~bit;
        }

        boolean outlives(int r, int s) {
            if (r == s || r == HEAP) {
                return true;
            }
            if (s >= FIRST_STEP) {
                return isLive(r) && (r < FIRST_STEP || r < s);
            }
            return r < FIRST_STEP && s != HEAP && (items.above[item] >> aboveBit(r, s) & 1) != 0;
        }

        static int aboveBit(int r, int s) {
            return (r - 1) * MAX_RS + s - 1;
        }

        int varsSeen() {
            return varCount;
        }

        void forgetVars(int keep) {
            varCount = Math.min(varCount, keep);
        }

        int findVar(long name) {
            for (int v = 0; v < varCount; v++) {
                if (varName[v] == name) {
                    return v;
                }
            }
            return NONE;
        }

        int addVar(long name, int type) {
            if (varCount >= MAX_VARS) {
                return NONE;
            }
            varName[varCount] = name;
            varType[varCount] = type;
            varSlot[varCount + 1] = varSlot[varCount] + types.wordsOf(type);
            forgetKnown(1 << varCount);
            flow &= ~(1L << varCount);
            varCount++;
            return varCount - 1;
        }

        int typeOf(int v) {
            return v < 0 || v >= varCount ? Types.INT : varType[v];
        }

        int slotOf(int v) {
            return v < 0 || v >= varCount ? 0 : varSlot[v];
        }

        boolean isReached() {
            return (flow & REACHED) != 0;
        }

        void leave() {
            flow &= ~REACHED;
        }

        boolean isSet(int v) {
            return !isReached() || (flow >> v & 1) != 0;
        }

        boolean isKnown(int v) {
            return !isReached() || (flow >> KNOWN_BIT + v & 1) != 0;
        }

        void give(int v, boolean known) {
            if (v >= 0) {
                forgetKnown(1 << v);
                flow |= 1L << v;
                if (known) {
                    know(v);
                }
            }
        }

        void know(int v) {
            if (v >= 0) {
                flow |= 1L << KNOWN_BIT + v;
            }
        }

        void forgetKnown(int vars) {
            flow &= ~((long) vars << KNOWN_BIT);
        }

        static boolean sameLive(long first, long second) {
            return ((first ^ second) & LIVE_BITS) == 0;
        }

        /** Goes on where two ways meet; false if other REGIONS are LIVE on them. */
        boolean meet(long first, long second) {
            boolean both = (first & second & REACHED) != 0;
            if (both) {
                flow = first & second;
                return sameLive(first, second);
            }
            flow = (first & REACHED) == 0 && (second & REACHED) != 0 ? second : first;
            return true;
        }
    }

    /** The check of the heads, and the reading of TYPES and REGIONS. */
    private static final class Heads {
        private final Source source;
        private final Items items;
        final Types types;
        final Scope scope;
        private final Code code;

        Heads(Source source, Items items, Types types, Scope scope, Code code) {
            this.source = source;
            this.items = items;
            this.types = types;
            this.scope = scope;
            this.code = code;
        }

        void check() {
            types.clear();
            for (int i = 0; i < items.count; i++) {
                checkHead(i);
                code.tally(items.kind[i] == FUN ? COUNT_FUNS : COUNT_TITLES);
            }
            int main = items.find(mainName(), true);
            if (main == NONE || items.rsCount[main] + items.partCount[main] > 0 || items.typeTok[main] != 0) {
                code.note(8, source.length);
            }
        }

        static long mainName() {
            return 'm' << 24 | 'a' << 16 | 'i' << 8 | 'n';
        }

        private void checkHead(int item) {
            int token = items.nameTok[item];
            if (items.find(items.name[item], items.kind[item] == FUN) != item) {
                code.note(2, source.startOf(token));
            }
            scope.enterHead(item);
            for (int k = 1; k <= items.rsCount[item]; k++) {
                if (scope.findRegion(source.nameAt(token + k)) != k) {
                    code.note(2, source.startOf(token + k));
                }
            }
            checkParts(item);
            items.gives[item] = items.typeTok[item] == 0 ? Types.NOTHING : readType(items.typeTok[item], 1);
            readDead(item);
            readWhere(item);
        }

        private void checkParts(int item) {
            boolean union = items.kind[item] == UNION;
            int words = 0;
            int most = 0;
            for (int k = 0; k < items.partCount[item]; k++) {
                int token = items.tokOfPart(item, k);
                if (findPart(item, source.nameAt(token)) != k) {
                    code.note(2, source.startOf(token));
                }
                int type = readType(token + 2, 1);
                items.setPart(item, k, type, union ? 1 : words);
                words += types.wordsOf(type);
                most = Math.max(most, types.wordsOf(type));
            }
            items.words[item] = union ? 1 + most : words;
        }

        int findPart(int item, long name) {
            for (int k = 0; k < items.partCount[item]; k++) {
                if (source.nameAt(items.tokOfPart(item, k)) == name) {
                    return k;
                }
            }
            return NONE;
        }

        private void readDead(int item) {
            int token = items.deadTok[item] + 1;
            int count = items.deadTok[item] == 0 ? 0 : source.countRegions(token);
            items.dead[item] = 0;
            for (int k = 0; k < count; k++) {
                int bit = 1 << ownRegion(token + k);
                if ((items.dead[item] & bit) != 0) {
                    code.note(2, source.startOf(token + k));
                }
                items.dead[item] |= bit;
            }
        }

        private void readWhere(int item) {
            items.above[item] = 0;
            items.pairCount[item] = 0;
            int token = items.whereTok[item] + 1;
            boolean more = items.whereTok[item] != 0;
            for (int k = 0; k < MAX_WHERE && more; k++) {
                int upper = ownRegion(token);
                int lower = ownRegion(token + 2);
                items.above[item] |= 1 << Scope.aboveBit(upper, lower);
                items.addPair(item, upper, lower);
                more = source.kindAt(token + 3) == COMMA;
                token += 4;
            }
            items.above[item] = closed(items.above[item]);
        }

        /** With R > T and T > S also R > S. */
        private static int closed(int above) {
            int all = above;
            for (int t = 1; t <= MAX_RS; t++) {
                for (int r = 1; r <= MAX_RS; r++) {
                    for (int s = 1; s <= MAX_RS; s++) {
                        boolean through = (all >> Scope.aboveBit(r, t) & all >> Scope.aboveBit(t, s) & 1) != 0;
                        all |= through ? 1 << Scope.aboveBit(r, s) : 0;
                    }
                }
            }
            return all;
        }

        /** One of the RS of the head, told behind dead or where. */
        private int ownRegion(int token) {
            int region = scope.findRegion(source.nameAt(token));
            if (region < 1) {
                code.note(3, source.startOf(token));
                return 1;
            }
            return region;
        }

        int readRegion(int token) {
            int region = scope.findRegion(source.nameAt(token));
            if (region == NONE) {
                code.note(3, source.startOf(token));
                return Scope.HEAP;
            }
            return region;
        }

        int readRegions(int token, int count) {
            int regions = 0;
            for (int k = 0; k < count && k < MAX_RS; k++) {
                regions |= readRegion(token + k) << 4 * k;
            }
            return regions;
        }

        int readType(int token, int depth) {
            int kind = source.kindAt(token);
            if (kind == INT_WORD || depth > MAX_TYPES) {
                return Types.INT;
            }
            if (kind == TITLE) {
                return readTitle(token);
            }
            int region = readRegion(token + 1);
            int behind = readType(token + 2, depth + 1);
            return types.pointer(kind == AT ? Types.SOLID : kind == STAR ? Types.LOOSE : Types.ROWS, region, behind);
        }

        /** A TITLE and its REGIONS; int if they can't be so. */
        int readTitle(int token) {
            int count = source.countRegions(token + 1);
            int item = items.find(source.nameAt(token), false);
            if (item == NONE) {
                code.note(3, source.startOf(token));
                return Types.INT;
            }
            if (items.rsCount[item] != count) {
                code.note(7, source.startOf(token));
                return Types.INT;
            }
            return types.thing(item, readRegions(token + 1, count));
        }
    }

    /** The check of EXPRS, in the order in which things are done, and their instructions. */
    private static final class Exprs {
        private final Source source;
        private final Items items;
        private final Heads heads;
        private final Types types;
        private final Scope scope;
        private final Code code;

        Exprs(Source source, Items items, Heads heads, Code code) {
            this.source = source;
            this.items = items;
            this.heads = heads;
            this.types = heads.types;
            this.scope = heads.scope;
            this.code = code;
        }

        /** What the EXPR gives. */
        int check(int first, int depth) {
            int gives = checkTerm(first, 0, depth);
            int term = source.next[first];
            for (int i = 0; term != 0 && i < MAX_TEXT; i++) {
                int right = checkTerm(term, 0, depth);
                gives = checkOperator(first, term, gives, right);
                term = source.next[term];
            }
            return gives;
        }

        /** An EXPR that must FIT a TYPE. */
        void checkFits(int first, int wanted, int depth) {
            demandFit(check(first, depth), wanted, first);
        }

        void demandFit(int gives, int wanted, int first) {
            int lack = lackOf(gives, wanted);
            if (lack != 0) {
                code.note(lack, source.beginOf(first));
            }
        }

        void demand(boolean holds, int fault, int place) {
            if (!holds) {
                code.note(fault, place);
            }
        }

        /** 0 if it FITS, else the FAULT. */
        private int lackOf(int gives, int wanted) {
            int kind = types.kindOf(gives);
            int other = types.kindOf(wanted);
            if (kind == Types.NULL) {
                return other == Types.LOOSE ? 0 : 4;
            }
            if (kind < Types.SOLID || other < Types.SOLID) {
                return kind == Types.INT && other == Types.INT ? 0 : 4;
            }
            boolean alike = kind == other || kind == Types.SOLID && other == Types.LOOSE;
            if (!alike || types.behind(gives) != types.behind(wanted)) {
                return 4;
            }
            return scope.outlives(types.regionOf(gives), types.regionOf(wanted)) ? 0 : 5;
        }

        private int checkOperator(int first, int term, int left, int right) {
            int op = source.op[term];
            int begin = source.beginOf(first);
            if (op == PLUS && types.kindOf(left) == Types.ROWS && right == Types.INT) {
                code.emit(DO_MOVE, 0, 0);
                return left;
            }
            if (op == EQUAL && mayCompare(left) && mayCompare(right)) {
                checkComparison(left, right, begin, source.beginOf(term));
            } else if (left != Types.INT) {
                code.note(4, begin);
            } else if (right != Types.INT) {
                code.note(4, source.beginOf(term));
            }
            code.emit(instructionOf(op), 0, 0);
            return Types.INT;
        }

        private boolean mayCompare(int type) {
            return type == Types.NULL || types.isPointed(type);
        }

        private void checkComparison(int left, int right, int leftBegin, int rightBegin) {
            if (left == Types.NULL || right == Types.NULL) {
                return;
            }
            int r = types.regionOf(left);
            int s = types.regionOf(right);
            boolean fits = types.behind(left) == types.behind(right) && (scope.outlives(r, s) || scope.outlives(s, r));
            demand(fits, 4, rightBegin);
            demand(scope.isLive(r), 5, leftBegin);
            demand(scope.isLive(s), 5, rightBegin);
        }

        private static int instructionOf(int op) {
            switch (op) {
                case PLUS:
                    return DO_ADD;
                case MINUS:
                    return DO_SUBTRACT;
                case STAR:
                    return DO_MULTIPLY;
                case SLASH:
                    return DO_DIVIDE;
                case PERCENT:
                    return DO_REMAINDER;
                case LESS:
                    return DO_LESS;
                default:
                    return DO_EQUAL;
            }
        }

        /** A TERM up to one of what follows its PRIMARY (0: all of it). */
        private int checkTerm(int term, int stop, int depth) {
            if (term == 0 || depth > MAX_DEPTH) {
                return Types.NOTHING;
            }
            int gives = checkPrimary(term, depth);
            int begin = source.beginOf(term);
            int link = source.tail[term];
            for (int i = 0; link != 0 && link != stop && i < MAX_TEXT; i++) {
                gives = source.kind[link] == IS
                        ? checkIs(link, gives, begin)
                        : checkPlace(link, gives, begin, FETCH, depth);
                link = source.next[link];
            }
            return gives;
        }

        private int checkPlace(int link, int gives, int begin, int use, int depth) {
            switch (source.kind[link]) {
                case DOT:
                    return checkField(link, gives, begin, use);
                case BRACKET:
                    return checkIndex(link, gives, begin, use, depth);
                default:
                    return checkCell(gives, begin, use);
            }
        }

        private int checkField(int link, int gives, int begin, int use) {
            int item = types.titleBehind(gives);
            if (item == NONE) {
                code.note(4, begin);
                return Types.INT;
            }
            demand(scope.isLive(types.regionOf(gives)), 5, begin);
            int part = heads.findPart(item, source.nameAt(source.tok[link] + 1));
            if (part == NONE) {
                code.note(3, source.startOf(source.tok[link] + 1));
                return Types.INT;
            }
            countNull(gives);
            int type = types.told(items.typeOfPart(item, part), types.regionsBehind(gives), 1);
            if (items.kind[item] == UNION) {
                demand(use != POINT, 4, begin);
                if (use == FETCH) {
                    code.tally(COUNT_TAGS);
                }
                code.emit(use == FETCH ? DO_GET_TAGGED : DO_PUT_TAGGED, part + 1, types.wordsOf(type));
            } else {
                emitPointed(use, items.placeOfPart(item, part), type);
            }
            return type;
        }

        private void emitPointed(int use, int offset, int type) {
            code.emit(use == FETCH ? DO_GET : use == POINT ? DO_ADDRESS : DO_PUT, offset, types.wordsOf(type));
        }

        private void countNull(int gives) {
            if (types.kindOf(gives) == Types.LOOSE) {
                code.tally(COUNT_NULLS);
            }
        }

        private int checkIndex(int link, int gives, int begin, int use, int depth) {
            int index = source.right[link];
            int indexGives = check(index, depth + 1);
            if (types.kindOf(gives) != Types.ROWS) {
                code.note(4, begin);
                return Types.INT;
            }
            demand(scope.isLive(types.regionOf(gives)), 5, begin);
            demand(indexGives == Types.INT, 4, source.beginOf(index));
            code.tally(COUNT_BOUNDS);
            int type = types.behind(gives);
            int instruction = use == FETCH ? DO_GET_AT : use == POINT ? DO_ADDRESS_AT : DO_PUT_AT;
            code.emit(instruction, 0, types.wordsOf(type));
            return type;
        }

        private int checkCell(int gives, int begin, int use) {
            if (!types.isPointed(gives) || types.titleBehind(gives) != NONE) {
                code.note(4, begin);
                return Types.INT;
            }
            demand(scope.isLive(types.regionOf(gives)), 5, begin);
            countNull(gives);
            int type = types.behind(gives);
            emitPointed(use, 0, type);
            return type;
        }

        private int checkIs(int link, int gives, int begin) {
            int item = types.titleBehind(gives);
            if (item == NONE || items.kind[item] != UNION) {
                code.note(4, begin);
                return Types.INT;
            }
            demand(scope.isLive(types.regionOf(gives)), 5, begin);
            int part = heads.findPart(item, source.nameAt(source.tok[link] + 1));
            demand(part != NONE, 3, source.startOf(source.tok[link] + 1));
            countNull(gives);
            code.emit(DO_IS, part + 1, 0);
            return Types.INT;
        }

        private int checkPrimary(int term, int depth) {
            int token = source.tok[term];
            switch (source.kind[term]) {
                case NUMBER:
                    code.emit(DO_PUSH, (int) source.nameAt(token), 0);
                    return Types.INT;
                case NULL_WORD:
                    code.emit(DO_PUSH, 0, 0);
                    return Types.NULL;
                case READ:
                    code.emit(DO_READ, 0, 0);
                    return Types.INT;
                case CAUGHT:
                    demand(scope.catches > 0, 8, source.startOf(token));
                    code.emit(DO_LOAD, Scope.CATCH_SLOTS + scope.catches - 1, 1);
                    return Types.INT;
                case NAME:
                    return checkName(token);
                case CALL:
                    return checkCall(term, depth);
                case NEW:
                    return checkNew(term, depth);
                case CELL:
                    return checkNewCell(term, depth);
                case ROW:
                    return checkNewRow(term, depth);
                case AMPERSAND:
                    return checkAddress(term, depth);
                case NN:
                    return checkSolid(term, depth);
                case SIZE:
                    return checkSize(term, depth);
                default:
                    return check(source.right[term], depth + 1);
            }
        }

        private int checkName(int token) {
            int v = scope.findVar(source.nameAt(token));
            if (v == NONE) {
                code.note(3, source.startOf(token));
                return Types.INT;
            }
            demand(scope.isSet(v), 6, source.startOf(token));
            int type = scope.typeOf(v);
            code.emit(DO_LOAD, scope.slotOf(v), types.wordsOf(type));
            boolean solid = types.kindOf(type) == Types.LOOSE && scope.isKnown(v);
            return solid ? solidOf(type) : type;
        }

        private int solidOf(int type) {
            return types.pointer(Types.SOLID, types.regionOf(type), types.behind(type));
        }

        private int checkCall(int term, int depth) {
            int token = source.tok[term];
            int begin = source.startOf(token);
            int count = source.left[term];
            int fun = items.find(source.nameAt(token), true);
            if (fun == NONE) {
                code.note(3, begin);
                return Types.INT;
            }
            if (items.rsCount[fun] != count) {
                code.note(7, begin);
                return Types.INT;
            }
            int regions = heads.readRegions(token + 1, count);
            if (source.countPeers(source.right[term]) != items.partCount[fun]) {
                code.note(7, begin);
                return Types.INT;
            }
            checkParts(fun, source.right[term], regions, depth);
            for (int k = 1; k <= count; k++) {
                boolean dead = (items.dead[fun] >> k & 1) != 0;
                demand(dead || scope.isLive(Types.toldOne(k, regions)), 5, source.startOf(token + k));
            }
            checkWhere(fun, regions, token);
            code.emit(DO_CALL, fun, regions);
            return types.told(items.gives[fun], regions, 1);
        }

        private void checkParts(int item, int first, int regions, int depth) {
            int argument = first;
            for (int k = 0; k < items.partCount[item] && argument != 0; k++) {
                checkFits(argument, types.told(items.typeOfPart(item, k), regions, 1), depth + 1);
                argument = source.peer[argument];
            }
        }

        private void checkWhere(int fun, int regions, int token) {
            for (int k = 0; k < MAX_WHERE && items.upperOf(fun, k) != 0; k++) {
                int upper = items.upperOf(fun, k);
                int lower = items.lowerOf(fun, k);
                boolean holds = scope.outlives(Types.toldOne(upper, regions), Types.toldOne(lower, regions));
                demand(holds, 5, source.startOf(token + upper));
            }
        }

        private int readLiveRegion(int token) {
            int region = heads.readRegion(token);
            demand(scope.isLive(region), 5, source.startOf(token));
            return region;
        }

        private int checkNew(int term, int depth) {
            int token = source.tok[term];
            int region = readLiveRegion(token + 1);
            int thing = heads.readTitle(token + 2);
            int type = types.pointer(Types.SOLID, region, thing);
            int item = types.titleBehind(type);
            if (item == NONE) {
                return Types.INT;
            }
            int opener = token + 3 + source.left[term];
            boolean union = items.kind[item] == UNION;
            demand(source.kindAt(opener) == (union ? DOT : BRACE), 7, source.startOf(opener));
            code.tally(COUNT_MAKES);
            if (union) {
                makeUnion(term, type, opener + 1, depth);
            } else {
                makeStruct(term, type, token + 2, depth);
            }
            return type;
        }

        private void makeUnion(int term, int type, int fieldToken, int depth) {
            int item = types.titleBehind(type);
            int part = heads.findPart(item, source.nameAt(fieldToken));
            if (part == NONE) {
                code.note(3, source.startOf(fieldToken));
                return;
            }
            int wanted = types.told(items.typeOfPart(item, part), types.regionsBehind(type), 1);
            checkFits(source.right[term], wanted, depth + 1);
            code.emit(DO_MAKE_TAGGED, types.regionOf(type) | part + 1 << 4,
                    types.wordsOf(wanted) | items.words[item] << 8);
        }

        private void makeStruct(int term, int type, int titleToken, int depth) {
            int item = types.titleBehind(type);
            if (source.countPeers(source.right[term]) != items.partCount[item]) {
                code.note(7, source.startOf(titleToken));
                return;
            }
            checkParts(item, source.right[term], types.regionsBehind(type), depth);
            code.emit(DO_MAKE, types.regionOf(type), items.words[item]);
        }

        private int checkNewCell(int term, int depth) {
            int region = readLiveRegion(source.tok[term] + 1);
            int type = checkValue(source.right[term], depth + 1);
            code.tally(COUNT_MAKES);
            code.emit(DO_MAKE, region, types.wordsOf(type));
            return types.pointer(Types.SOLID, region, type);
        }

        private int checkNewRow(int term, int depth) {
            int region = readLiveRegion(source.tok[term] + 1);
            int size = source.right[term];
            demand(check(size, depth + 1) == Types.INT, 4, source.beginOf(size));
            int type = checkValue(source.peer[size], depth + 1);
            code.tally(COUNT_MAKES);
            code.emit(DO_MAKE_ROW, region, types.wordsOf(type));
            return types.pointer(Types.ROWS, region, type);
        }

        private int checkValue(int first, int depth) {
            int type = check(first, depth);
            if (type == Types.NOTHING || type == Types.NULL) {
                code.note(4, source.beginOf(first));
                return Types.INT;
            }
            return type;
        }

        private int checkAddress(int term, int depth) {
            int target = source.bare(source.right[term]);
            int begin = source.beginOf(target);
            int last = source.lastTail(target);
            if (source.next[target] != 0 || source.kind[last] != DOT && source.kind[last] != BRACKET) {
                code.note(4, begin);
                return Types.INT;
            }
            int holder = checkTerm(target, last, depth + 1);
            int type = checkPlace(last, holder, begin, POINT, depth + 1);
            return types.pointer(Types.SOLID, types.regionOf(holder), type);
        }

        private int checkSolid(int term, int depth) {
            int first = source.right[term];
            int type = check(first, depth + 1);
            if (!types.isPointed(type)) {
                code.note(4, source.beginOf(first));
                return Types.INT;
            }
            countNull(type);
            code.emit(DO_SOLID, 0, 0);
            return solidOf(type);
        }

        private int checkSize(int term, int depth) {
            int first = source.right[term];
            int type = check(first, depth + 1);
            demand(types.kindOf(type) == Types.ROWS, 4, source.beginOf(first));
            code.emit(DO_SIZE, 0, 0);
            return Types.INT;
        }

        /** A PLACE ahead of = that is no NAME; what comes there is told by its TYPE and the EXPR that gives it. */
        void storePlace(int place, int gives, int value, int depth) {
            int target = source.bare(place);
            int last = source.lastTail(target);
            if (source.next[target] != 0 || last == 0 || source.kind[last] == IS) {
                code.note(4, source.beginOf(target));
                return;
            }
            int holder = checkTerm(target, last, depth);
            int type = checkPlace(last, holder, source.beginOf(target), STORE, depth);
            demandFit(gives, type, value);
        }

        /** A NAME ahead of = . */
        void storeVar(int token, int gives, int value) {
            int v = scope.findVar(source.nameAt(token));
            if (v == NONE) {
                code.note(3, source.startOf(token));
                return;
            }
            demandFit(gives, scope.typeOf(v), value);
            giveVar(v, gives);
        }

        /** The VAR takes what lies on the stack. */
        void giveVar(int v, int gives) {
            int type = scope.typeOf(v);
            boolean known = types.kindOf(type) == Types.LOOSE && types.kindOf(gives) == Types.SOLID;
            scope.give(v, known);
            code.emit(DO_SAVE, scope.slotOf(v), types.wordsOf(type));
        }

        /** The token of the NAME that the EXPR is, and nothing else; NONE without one. */
        int nameAlone(int first) {
            int e = source.bare(first);
            boolean isName = source.kind[e] == NAME && source.tail[e] == 0 && source.next[e] == 0;
            return isName ? source.tok[e] : NONE;
        }

        /** The VAR that the EXPR is, and nothing else; NONE without one. */
        int varAlone(int first) {
            int token = nameAlone(first);
            return token == NONE ? NONE : scope.findVar(source.nameAt(token));
        }

        /** The VAR of NAME == null; NONE if the EXPR is not that. */
        int varAgainstNull(int first) {
            int e = source.bare(first);
            int other = source.next[e];
            if (other == 0 || source.next[other] != 0 || source.op[other] != EQUAL) {
                return NONE;
            }
            int bareOther = source.bareTerm(other);
            boolean isNull = source.kind[bareOther] == NULL_WORD && source.tail[bareOther] == 0;
            return isNull ? varOfTerm(e) : NONE;
        }

        private int varOfTerm(int term) {
            int e = source.bareTerm(term);
            boolean isName = source.kind[e] == NAME && source.tail[e] == 0;
            return isName ? scope.findVar(source.nameAt(source.tok[e])) : NONE;
        }
    }

    /** The check of STEPS and BLOCKS, and their instructions. */
    private static final class Steps {
        private final Source source;
        private final Items items;
        private final Heads heads;
        private final Types types;
        private final Scope scope;
        private final Exprs exprs;
        private final Code code;

        Steps(Source source, Items items, Heads heads, Exprs exprs, Code code) {
            this.source = source;
            this.items = items;
            this.heads = heads;
            this.types = heads.types;
            this.scope = heads.scope;
            this.exprs = exprs;
            this.code = code;
        }

        void check() {
            for (int i = 0; i < items.count; i++) {
                if (items.kind[i] == FUN) {
                    checkFun(i);
                }
            }
        }

        private void checkFun(int fun) {
            scope.enterFun(fun);
            items.entry[fun] = code.count();
            checkBlock(items.body[fun], 1);
            if (items.gives[fun] != Types.NOTHING && scope.isReached()) {
                code.note(8, source.startOf(items.endTok[fun]));
            }
            code.emit(DO_RETURN, 0, 0);
        }

        private void checkBlock(int first, int depth) {
            if (depth > MAX_DEPTH) {
                return;
            }
            int seen = scope.varsSeen();
            int step = first;
            for (int i = 0; step != 0 && i < MAX_TEXT; i++) {
                code.emit(DO_STEP, source.startOf(source.tok[step]), 0);
                checkStep(step, depth);
                step = source.next[step];
            }
            scope.forgetVars(seen);
        }

        private void checkStep(int step, int depth) {
            switch (source.kind[step]) {
                case VAR:
                    checkVar(step, depth);
                    break;
                case IF:
                    checkIf(step, depth);
                    break;
                case WHILE:
                    checkWhile(step, depth);
                    break;
                case RETURN:
                    checkReturn(step, depth);
                    break;
                case PRINT:
                    checkNumber(source.right[step], depth);
                    code.emit(DO_PRINT, 0, 0);
                    break;
                case THROW:
                    checkNumber(source.right[step], depth);
                    code.emit(DO_THROW, 0, 0);
                    scope.leave();
                    break;
                case REGION_STEP:
                    checkRegion(step, depth);
                    break;
                case CLOSE:
                    checkClose(step);
                    break;
                case TRY:
                    checkTry(step, depth);
                    break;
                case ASSIGN:
                    int value = source.right[step];
                    int gives = exprs.check(value, depth + 1);
                    int name = exprs.nameAlone(source.left[step]);
                    if (name == NONE) {
                        exprs.storePlace(source.left[step], gives, value, depth + 1);
                    } else {
                        exprs.storeVar(name, gives, value);
                    }
                    break;
                default:
                    code.emit(DO_DROP, types.wordsOf(exprs.check(source.right[step], depth + 1)), 0);
                    break;
            }
        }

        private void checkNumber(int first, int depth) {
            exprs.checkFits(first, Types.INT, depth + 1);
        }

        private void checkVar(int step, int depth) {
            int token = source.tok[step] + 1;
            int value = source.right[step];
            code.tally(COUNT_VARS);
            int type = heads.readType(token + 2, 1);
            int gives = exprs.check(value, depth + 1);
            if (value != 0) {
                exprs.demandFit(gives, type, value);
            }
            exprs.demand(scope.findVar(source.nameAt(token)) == NONE, 2, source.startOf(token));
            int v = scope.addVar(source.nameAt(token), type);
            if (value != 0) {
                exprs.giveVar(v, gives);
            }
        }

        private void checkReturn(int step, int depth) {
            int value = source.right[step];
            int wanted = items.gives[scope.item];
            exprs.demand((value != 0) == (wanted != Types.NOTHING), 8, source.startOf(source.tok[step]));
            if (value != 0) {
                exprs.checkFits(value, wanted, depth + 1);
            }
            code.emit(DO_RETURN, types.wordsOf(wanted), 0);
            scope.leave();
        }

        private void checkQuestion(int first, int depth) {
            int gives = exprs.check(first, depth + 1);
            exprs.demand(gives == Types.INT || types.isPointed(gives), 4, source.beginOf(first));
        }

        private void checkIf(int step, int depth) {
            int question = source.left[step];
            checkQuestion(question, depth);
            int around = code.emit(DO_JUMP_ZERO, 0, 0);
            long ahead = scope.flow;
            scope.know(exprs.varAlone(question));
            checkBlock(source.right[step], depth + 1);
            long first = scope.flow;
            scope.flow = ahead;
            scope.know(exprs.varAgainstNull(question));
            if (source.tail[step] != 0) {
                int behind = code.emit(DO_JUMP, 0, 0);
                code.aim(around);
                checkBlock(source.tail[step], depth + 1);
                code.aim(behind);
            } else {
                code.aim(around);
            }
            exprs.demand(scope.meet(first, scope.flow), 8, source.startOf(source.tok[step]));
        }

        private void checkWhile(int step, int depth) {
            int question = source.left[step];
            int again = code.count() - 1;
            scope.forgetKnown(varsGiven(source.right[step], depth + 1));
            checkQuestion(question, depth);
            int out = code.emit(DO_JUMP_ZERO, 0, 0);
            long behind = scope.flow;
            scope.know(exprs.varAlone(question));
            checkBlock(source.right[step], depth + 1);
            boolean holds = !scope.isReached() || Scope.sameLive(scope.flow, behind);
            exprs.demand(holds, 8, source.startOf(source.tok[step]));
            code.emit(DO_JUMP, again, 0);
            code.aim(out);
            scope.flow = behind;
            scope.know(exprs.varAgainstNull(question));
        }

        private void checkRegion(int step, int depth) {
            int token = source.tok[step] + 1;
            boolean free = scope.findRegion(source.nameAt(token)) == NONE;
            exprs.demand(free, 2, source.startOf(token));
            int region = scope.openRegion(source.nameAt(token));
            code.emit(DO_OPEN, region, 0);
            checkBlock(source.right[step], depth + 1);
            if (scope.isLive(region)) {
                code.emit(DO_CLOSE, region, 0);
            }
            scope.leaveRegion(region);
        }

        private void checkClose(int step) {
            int token = source.tok[step];
            int region = scope.findRegion(source.nameAt(token + 1));
            exprs.demand(region != NONE, 3, source.startOf(token + 1));
            if (!scope.mayClose(region)) {
                code.note(8, source.startOf(token));
                return;
            }
            scope.setLive(region, false);
            code.emit(DO_CLOSE, region, 0);
        }

        private void checkTry(int step, int depth) {
            long ahead = scope.flow;
            int entered = code.emit(DO_TRY, 0, 0);
            scope.tries++;
            checkBlock(source.right[step], depth + 1);
            scope.tries--;
            long first = scope.flow;
            code.emit(DO_END_TRY, 0, 0);
            int behind = code.emit(DO_JUMP, 0, 0);
            code.aim(entered);
            scope.flow = ahead;
            scope.forgetKnown(varsGiven(source.right[step], depth + 1));
            code.emit(DO_SAVE, Scope.CATCH_SLOTS + scope.catches, 1);
            scope.catches++;
            checkBlock(source.tail[step], depth + 1);
            scope.catches--;
            code.aim(behind);
            exprs.demand(scope.meet(first, scope.flow), 8, source.startOf(source.tok[step]));
        }

        /** The VARS seen here to which the BLOCK has a NAME = , a bit each. */
        private int varsGiven(int block, int depth) {
            if (depth > MAX_DEPTH) {
                return 0;
            }
            int given = 0;
            int step = block;
            for (int i = 0; step != 0 && i < MAX_TEXT; i++) {
                int kind = source.kind[step];
                if (kind == ASSIGN) {
                    int v = exprs.varAlone(source.left[step]);
                    given |= v == NONE ? 0 : 1 << v;
                } else if (kind == IF || kind == WHILE || kind == REGION_STEP || kind == TRY) {
                    given |= varsGiven(source.right[step], depth + 1) | varsGiven(source.tail[step], depth + 1);
                }
                step = source.next[step];
            }
            return given;
        }
    }

    /** What a build makes: the instructions and counts of the program, or the first FAULT. */
    private static final class Code {
        /* A STEP of two characters has three instructions, and nothing has more for its length. */
        private static final int MAX_CODE = MAX_TEXT / 2 * 3 + MAX_ITEMS + 8;

        private final int[] op = new int[MAX_CODE];
        private final int[] first = new int[MAX_CODE];
        private final int[] second = new int[MAX_CODE];
        private int count;
        final int[] counts = new int[COUNTS];
        int faultKind;
        int faultPlace = NONE;

        void clear() {
            count = 0;
            Arrays.fill(counts, 0);
            faultKind = 0;
            faultPlace = NONE;
        }

        /** The first that is met stays. */
        void note(int kind, int place) {
            if (faultKind == 0) {
                faultKind = kind;
                faultPlace = place;
            }
        }

        boolean isSound() {
            return faultKind == 0;
        }

        void tally(int what) {
            if (what >= 0 && what < counts.length) {
                counts[what]++;
            }
        }

        int count() {
            return count;
        }

        int emit(int instruction, int x, int y) {
            if (count >= MAX_CODE) {
                return NONE;
            }
            op[count] = instruction;
            first[count] = x;
            second[count] = y;
            count++;
            return count - 1;
        }

        /** Lets a jump lead to what comes next. */
        void aim(int jump) {
            if (has(jump)) {
                first[jump] = count;
            }
        }

        private boolean has(int at) {
            return at >= 0 && at < count;
        }

        int opAt(int at) {
            return has(at) ? op[at] : DO_RETURN;
        }

        int firstAt(int at) {
            return has(at) ? first[at] : 0;
        }

        int secondAt(int at) {
            return has(at) ? second[at] : 0;
        }
    }

    /** Runs the instructions on a stack of words; its frames and tries lie in rows of their own. */
    private static final class Machine {
        static final int NOTHING_RUNS = 0;
        static final int GOES_ON = 1;
        static final int DONE = 2;
        static final int FAILED = 3;
        static final int NO_ROOM = 4;
        static final int TOO_DEEP = 5;
        private static final int ERROR_NULL = 1;
        private static final int ERROR_BOUNDS = 2;
        private static final int ERROR_TAG = 3;
        private static final int ERROR_ZERO = 4;
        private static final int ERROR_SIZE = 5;
        static final int MAX_CALLS = 40;
        /* The VARS, three words each, and a number caught for each catch BLOCK in others. */
        private static final int FRAME_WORDS = Scope.CATCH_SLOTS + MAX_DEPTH;
        /* Each of twenty EXPRS in others leaves fewer than 25 words behind while the inner one is done. */
        private static final int OPERAND_WORDS = MAX_DEPTH * 25;
        private static final int FRAME_SIZE = 5 + Scope.REGIONS;
        private static final int F_RETURN = 0;
        private static final int F_BASE = 1;
        private static final int F_STEP = 2;
        private static final int F_REGIONS = 3;
        private static final int F_TRIES = 4;
        private static final int F_HANDLES = 5;
        private static final int TRY_SIZE = 4;
        private static final int MAX_TRIES = MAX_CALLS * MAX_DEPTH;
        /* Between two STEPS there is no loop, so that all calls and instructions together stay far below. */
        private static final int MAX_WORK = 1000000;

        private final Code code;
        private final Items items;
        final Memory memory = new Memory();
        private final int[] stack = new int[MAX_CALLS * (FRAME_WORDS + OPERAND_WORDS)];
        private int top;
        private final int[] frames = new int[(MAX_CALLS + 1) * FRAME_SIZE];
        private int calls;
        private final int[] tries = new int[MAX_TRIES * TRY_SIZE];
        private int tryCount;
        private int pc;
        int state;
        int error;
        private int stepsDone;
        private int errorsCame;
        private final int[] inputs = new int[MAX_INPUTS];
        private int inputCount;
        private final int[] printed = new int[MAX_PRINTED];
        private int printedCount;

        Machine(Code code, Items items) {
            this.code = code;
            this.items = items;
        }

        void halt() {
            state = NOTHING_RUNS;
        }

        void begin(int pages, int words) {
            memory.begin(pages, words);
            top = 0;
            calls = 0;
            tryCount = 0;
            pc = 0;
            error = 0;
            stepsDone = 0;
            errorsCame = 0;
            inputCount = 0;
            printedCount = 0;
            state = GOES_ON;
            enter(items.find(Heads.mainName(), true), 0);
            goOn();
        }

        int takeInput(int v) {
            if (state != GOES_ON || inputCount >= inputs.length) {
                return NONE;
            }
            inputs[inputCount] = v;
            inputCount++;
            return inputCount;
        }

        int doSteps(int n) {
            int done = 0;
            while (done < n && state == GOES_ON) {
                setFrame(F_STEP, code.firstAt(pc));
                pc++;
                stepsDone++;
                done++;
                goOn();
            }
            return done;
        }

        /** Up to where the next STEP would begin, or nothing goes on. */
        private void goOn() {
            for (int i = 0; i < MAX_WORK && state == GOES_ON && code.opAt(pc) != DO_STEP; i++) {
                int op = code.opAt(pc);
                int x = code.firstAt(pc);
                int y = code.secondAt(pc);
                pc++;
                if (op <= LAST_SIMPLE) {
                    doSimple(op, x, y);
                } else if (op <= LAST_NUMERIC) {
                    doNumeric(op);
                } else if (op <= LAST_POINTED) {
                    doPointed(op, x, y);
                } else if (op <= LAST_INDEXED) {
                    doIndexed(op, y);
                } else if (op <= LAST_MAKING) {
                    doMaking(op, x, y);
                } else {
                    doControl(op, x, y);
                }
            }
        }

        private void push(int word) {
            if (top >= 0 && top < stack.length) {
                stack[top] = word;
                top++;
            }
        }

        private int pop() {
            if (top <= 0 || top > stack.length) {
                return 0;
            }
            top--;
            return stack[top];
        }

        private int wordAt(int at) {
            return at < 0 || at >= stack.length ? 0 : stack[at];
        }

        private void setWord(int at, int word) {
            if (at >= 0 && at < stack.length) {
                stack[at] = word;
            }
        }

        private int frame(int what) {
            int at = calls * FRAME_SIZE + what;
            return at < 0 || at >= frames.length ? 0 : frames[at];
        }

        private void setFrame(int what, int value) {
            int at = calls * FRAME_SIZE + what;
            if (at >= 0 && at < frames.length) {
                frames[at] = value;
            }
        }

        private void doSimple(int op, int x, int y) {
            switch (op) {
                case DO_PUSH:
                    push(x);
                    break;
                case DO_LOAD:
                    for (int k = 0; k < y; k++) {
                        push(wordAt(frame(F_BASE) + x + k));
                    }
                    break;
                case DO_SAVE:
                    for (int k = y - 1; k >= 0; k--) {
                        setWord(frame(F_BASE) + x + k, pop());
                    }
                    break;
                case DO_DROP:
                    top = Math.max(0, top - x);
                    break;
                case DO_READ:
                    push(nextInput());
                    break;
                case DO_PRINT:
                    keepPrinted(pop());
                    break;
                case DO_SIZE:
                    int size = pop();
                    top = Math.max(0, top - 2);
                    push(size);
                    break;
                default:
                    int distance = pop();
                    setWord(top - 2, wordAt(top - 2) + distance);
                    break;
            }
        }

        private int nextInput() {
            if (inputCount == 0) {
                return 0;
            }
            int v = inputs[0];
            inputCount--;
            System.arraycopy(inputs, 1, inputs, 0, inputCount);
            return v;
        }

        private void keepPrinted(int v) {
            if (printedCount < printed.length) {
                printed[printedCount] = v;
            }
            printedCount++;
        }

        private void doNumeric(int op) {
            int right = pop();
            int left = pop();
            switch (op) {
                case DO_ADD:
                    push(left + right);
                    break;
                case DO_SUBTRACT:
                    push(left - right);
                    break;
                case DO_MULTIPLY:
                    push(left * right);
                    break;
                case DO_EQUAL:
                    push(left == right ? 1 : 0);
                    break;
                case DO_LESS:
                    push(left < right ? 1 : 0);
                    break;
                default:
                    if (right == 0) {
                        raise(ERROR_ZERO);
                    } else {
                        push(op == DO_DIVIDE ? left / right : left % right);
                    }
                    break;
            }
        }

        /* A pointer is the number of its word in the memory and one more; 0 is null. */
        private void doPointed(int op, int x, int y) {
            int pointer = pop();
            if (pointer == 0) {
                raise(ERROR_NULL);
                return;
            }
            int at = pointer - 1;
            switch (op) {
                case DO_GET:
                    fetch(at + x, y);
                    break;
                case DO_GET_TAGGED:
                    if (memory.get(at) == x) {
                        fetch(at + 1, y);
                    } else {
                        raise(ERROR_TAG);
                    }
                    break;
                case DO_IS:
                    push(memory.get(at) == x ? 1 : 0);
                    break;
                case DO_SOLID:
                    push(pointer);
                    break;
                case DO_ADDRESS:
                    push(pointer + x);
                    break;
                case DO_PUT:
                    store(at + x, y);
                    break;
                default:
                    memory.put(at, x);
                    store(at + 1, y);
                    break;
            }
        }

        private void fetch(int at, int words) {
            for (int k = 0; k < words; k++) {
                push(memory.get(at + k));
            }
        }

        private void store(int at, int words) {
            for (int k = words - 1; k >= 0; k--) {
                memory.put(at + k, pop());
            }
        }

        private void doIndexed(int op, int words) {
            int index = pop();
            int size = pop();
            int place = pop() + index;
            int at = pop() - 1;
            if (place < 0 || place >= size) {
                raise(ERROR_BOUNDS);
                return;
            }
            at += place * words;
            switch (op) {
                case DO_GET_AT:
                    fetch(at, words);
                    break;
                case DO_ADDRESS_AT:
                    push(at + 1);
                    break;
                default:
                    store(at, words);
                    break;
            }
        }

        private void doMaking(int op, int x, int y) {
            switch (op) {
                case DO_MAKE:
                    int at = placeFor(x, 1, y);
                    if (at != NONE) {
                        store(at, y);
                        push(at + 1);
                    }
                    break;
                case DO_MAKE_TAGGED:
                    int union = placeFor(x & 15, 1, y >> 8);
                    if (union != NONE) {
                        memory.put(union, x >> 4);
                        store(union + 1, y & 255);
                        push(union + 1);
                    }
                    break;
                default:
                    makeRow(x, y);
                    break;
            }
        }

        private void makeRow(int region, int words) {
            int from = top - words;
            int size = wordAt(from - 1);
            int at = placeFor(region, size, words);
            if (at == NONE) {
                return;
            }
            for (int k = 0; k < size * words; k++) {
                memory.put(at + k, wordAt(from + k % words));
            }
            top = Math.max(0, from - 1);
            push(at + 1);
            push(0);
            push(size);
        }

        /** Where a new object lies; NONE if it can't be made. */
        private int placeFor(int region, int size, int words) {
            if (size < 0 || (long) size * words > memory.pageWords()) {
                raise(ERROR_SIZE);
                return NONE;
            }
            int at = memory.make(frame(F_HANDLES + region), size * words);
            if (at == NONE) {
                state = NO_ROOM;
            }
            return at;
        }

        private void doControl(int op, int x, int y) {
            switch (op) {
                case DO_JUMP:
                    pc = x;
                    break;
                case DO_JUMP_ZERO:
                    if (pop() == 0) {
                        pc = x;
                    }
                    break;
                case DO_OPEN:
                    setFrame(F_HANDLES + x, memory.open());
                    break;
                case DO_CLOSE:
                    memory.closeFrom(frame(F_HANDLES + x));
                    break;
                case DO_TRY:
                    pushTry(x);
                    break;
                case DO_END_TRY:
                    tryCount = Math.max(0, tryCount - 1);
                    break;
                case DO_THROW:
                    raise(pop());
                    break;
                case DO_CALL:
                    enter(x, y);
                    break;
                default:
                    leave(x);
                    break;
            }
        }

        private void pushTry(int handler) {
            int at = tryCount * TRY_SIZE;
            if (at >= 0 && at + TRY_SIZE <= tries.length) {
                tries[at] = handler;
                tries[at + 1] = calls;
                tries[at + 2] = top;
                tries[at + 3] = memory.regionCount();
                tryCount++;
            }
        }

        private void raise(int number) {
            errorsCame++;
            int at = (tryCount - 1) * TRY_SIZE;
            if (at < 0 || at + TRY_SIZE > tries.length) {
                state = FAILED;
                error = number;
                return;
            }
            tryCount--;
            pc = tries[at];
            calls = tries[at + 1];
            top = tries[at + 2];
            memory.closeFrom(tries[at + 3]);
            push(number);
        }

        private void enter(int fun, int regions) {
            if (fun < 0 || fun >= items.count) {
                return;
            }
            if (calls >= MAX_CALLS) {
                state = TOO_DEEP;
                return;
            }
            int base = Math.max(0, top - items.words[fun]);
            int caller = calls * FRAME_SIZE + F_HANDLES;
            calls++;
            setFrame(F_RETURN, pc);
            setFrame(F_BASE, base);
            setFrame(F_REGIONS, memory.regionCount());
            setFrame(F_TRIES, tryCount);
            setFrame(F_HANDLES, 0);
            for (int k = 1; k <= MAX_RS; k++) {
                setFrame(F_HANDLES + k, frames[caller + Math.min(Types.toldOne(k, regions), Scope.REGIONS - 1)]);
            }
            top = Math.min(base + FRAME_WORDS, stack.length);
            pc = items.entry[fun];
        }

        private void leave(int words) {
            int base = frame(F_BASE);
            int from = top - words;
            for (int k = 0; k < words; k++) {
                setWord(base + k, wordAt(from + k));
            }
            top = base + words;
            memory.closeFrom(frame(F_REGIONS));
            tryCount = frame(F_TRIES);
            pc = frame(F_RETURN);
            calls = Math.max(0, calls - 1);
            if (calls == 0) {
                state = DONE;
            }
        }

        int placeOfStep() {
            if (state == GOES_ON) {
                return code.firstAt(pc);
            }
            return state == NOTHING_RUNS || state == DONE ? NONE : frame(F_STEP);
        }

        int tell(int what) {
            switch (what) {
                case 0:
                    return stepsDone;
                case 1:
                    return memory.pagesInUse();
                case 2:
                    return memory.regionCount();
                case 3:
                    return calls;
                case 4:
                    return printedCount;
                case 5:
                    return memory.objectsMade();
                case 6:
                    return inputCount;
                case 7:
                    return errorsCame;
                default:
                    return memory.strayTouches();
            }
        }

        int printedAt(int k) {
            return k < 0 || k >= printedCount || k >= printed.length ? 0 : printed[k];
        }
    }

    /** The PAGES, and the regions that have them; the regions are a stack, for they end in that order. */
    private static final class Memory {
        static final int MAX_PAGES = 64;
        static final int MAX_WORDS = 64;
        private static final int MAX_REGIONS = 1 + Machine.MAX_CALLS * MAX_REGION_STEPS;

        private final int[] words = new int[MAX_PAGES * MAX_WORDS];
        private final boolean[] given = new boolean[MAX_PAGES * MAX_WORDS];
        private final int[] owner = new int[MAX_PAGES];
        private int pages;
        private int wordsAPage;
        private int inUse;
        private int made;
        private int strays;
        private int regions;
        private final int[] pagesOf = new int[MAX_REGIONS];
        private final int[] wordsOf = new int[MAX_REGIONS];
        private final int[] objectsOf = new int[MAX_REGIONS];
        private final int[] nextOf = new int[MAX_REGIONS];
        private final int[] leftOf = new int[MAX_REGIONS];

        void begin(int pageCount, int pageWords) {
            pages = Math.max(0, Math.min(pageCount, MAX_PAGES));
            wordsAPage = Math.max(0, Math.min(pageWords, MAX_WORDS));
            inUse = 0;
            made = 0;
            strays = 0;
            regions = 0;
            Arrays.fill(owner, NONE);
            open();
        }

        int pageWords() {
            return wordsAPage;
        }

        int pagesInUse() {
            return inUse;
        }

        int regionCount() {
            return regions;
        }

        int objectsMade() {
            return made;
        }

        int strayTouches() {
            return strays;
        }

        int open() {
            if (regions >= MAX_REGIONS) {
                return 0;
            }
            pagesOf[regions] = 0;
            wordsOf[regions] = 0;
            objectsOf[regions] = 0;
            nextOf[regions] = 0;
            leftOf[regions] = 0;
            regions++;
            return regions - 1;
        }

        /** Ends the regions from this one on. */
        void closeFrom(int region) {
            if (region < 1 || region >= regions) {
                return;
            }
            for (int p = 0; p < pages; p++) {
                if (owner[p] >= region) {
                    owner[p] = NONE;
                    inUse--;
                }
            }
            regions = region;
        }

        /** A place for so many words in a region; NONE without room. */
        int make(int region, int count) {
            if (region < 0 || region >= regions) {
                return NONE;
            }
            if (count > leftOf[region]) {
                int page = freePage();
                if (page == NONE) {
                    return NONE;
                }
                takePage(region, page);
            }
            int at = nextOf[region];
            nextOf[region] += count;
            leftOf[region] -= count;
            wordsOf[region] += count;
            objectsOf[region]++;
            made++;
            return at;
        }

        private int freePage() {
            for (int p = 0; p < pages; p++) {
                if (owner[p] == NONE) {
                    return p;
                }
            }
            return NONE;
        }

        /** The words of the page count as never given a value. */
        private void takePage(int region, int page) {
            int from = page * wordsAPage;
            owner[page] = region;
            inUse++;
            pagesOf[region]++;
            nextOf[region] = from;
            leftOf[region] = wordsAPage;
            for (int at = from; at < from + wordsAPage && at < given.length; at++) {
                given[at] = false;
            }
        }

        int get(int at) {
            if (!isOwned(at) || !given[at]) {
                strays++;
                return 0;
            }
            return words[at];
        }

        void put(int at, int word) {
            if (!isOwned(at)) {
                strays++;
                return;
            }
            words[at] = word;
            given[at] = true;
        }

        private boolean isOwned(int at) {
            return at >= 0 && wordsAPage > 0 && at < pages * wordsAPage && owner[at / wordsAPage] != NONE;
        }

        int tellRegion(int region, int what) {
            if (region < 0 || region >= regions) {
                return NONE;
            }
            switch (what) {
                case 0:
                    return pagesOf[region];
                case 1:
                    return wordsOf[region];
                case 2:
                    return objectsOf[region];
                default:
                    return NONE;
            }
        }
    }
}
