import java.util.ArrayList;

/** Judges small texts by the rules of checked exceptions, and walks their methods by chance. */
public final class ThrowRules {
    public static final int NONE = -1, ENDLESS = -2, BAD = -3;

    private static final int TAPE_LIMIT = 2000, FED_AT_ONCE = 20, WRONG_TEXT = -10;
    private static final int KIND_LIMIT = 16, WAY_LIMIT = 12, STATEMENT_LIMIT = 120;
    private static final int NAME_LIMIT = 4, CATCH_LIMIT = 4, BRACE_LIMIT = 8, WORD_LIMIT = 8;
    private static final int STEP_LIMIT = 300;
    private static final int FOUND_KIND = 100, FOUND_WAY = 200;

    private static final int ALL = 0, PLAIN = 1, LOOSE = 2, ERROR = 3;
    private static final int UNCHECKED = 1 << LOOSE | 1 << ERROR;

    // Sorts of STATEMENTS.
    private static final int CALL = 1, THROW = 2, SET = 3, IF = 4, WHILE = 5, LOOP = 6;
    private static final int BREAK = 7, RETURN = 8, TRY = 9, RUN = 10, BLOCK = 11;

    // Tokens: the keywords by their order here, those first that begin STATEMENTS, by their sorts.
    private static final String KEYWORDS = "do call throw set if while loop break return try run kind below way over free throws else catch finally ";
    private static final int KIND_WORD = 11, BELOW_WORD = 12, WAY_WORD = 13, OVER_WORD = 14;
    private static final int FREE_WORD = 15, THROWS_WORD = 16, ELSE_WORD = 17, CATCH_WORD = 18;
    private static final int FINALLY_WORD = 19, KEYWORD_COUNT = 20;
    private static final String SIGNS = "{}();,|";
    private static final int OPEN = 20, CLOSE = 21, LEFT_ROUND = 22, RIGHT_ROUND = 23;
    private static final int SEMICOLON = 24, COMMA = 25, BAR = 26;
    private static final int NAME = 27, END = 28, WRONG = 29;

    // Codes of MISTAKES.
    private static final int UNKNOWN = 1, TAKEN = 2, NEVER_THROWN = 3, CAUGHT_AHEAD = 4;
    private static final int DOUBLED = 5, SET_OF_MANY = 6, NEVER_REACHED = 7, STRAY_BREAK = 8;
    private static final int UNTOLD = 9, WIDER_THAN_OVER = 10, LAMBDA_UNWANTED = 11, CAPTURED = 12;

    // Ends of what is walked, beside ENDLESS and the KINDS, which are thrown.
    private static final int DONE = NONE, BROKEN = -4, RETURNED = -5;

    private final Tape tape = new Tape();
    private final Walker walker = new Walker();
    private Unit unit = new Unit();

    public ThrowRules() {
    }

    public int feed(int a, int b, int c, int d, int e) {
        if (tape.length + FED_AT_ONCE > TAPE_LIMIT) {
            return BAD;
        }
        tape.append(a);
        tape.append(b);
        tape.append(c);
        tape.append(d);
        tape.append(e);
        return tape.length;
    }

    public int cut(int n) {
        if (n < 0 || n > tape.length) {
            return BAD;
        }
        int gone = tape.length - n;
        tape.length = n;
        return gone;
    }

    public int read() {
        Unit next = new Unit();
        int wrong = new Parser(tape, next).parse();
        tape.length = 0;
        if (wrong != NONE) {
            return WRONG_TEXT - wrong;
        }
        new Judge(next).judge();
        unit = next;
        return unit.ways.size();
    }

    public int told(int what) {
        switch (what) {
            case 0: return unit.kinds.count;
            case 1: return unit.ways.size();
            case 2: return unit.statements.size();
            case 3: return unit.mistakes.size();
            case 4: return tape.length;
            default: return BAD;
        }
    }

    public int mistake(int k, int what) {
        if (k < 0 || k >= unit.mistakes.size()) {
            return BAD;
        }
        int key = unit.mistakes.get(k);
        switch (what) {
            case 0: return Unit.codeIn(key);
            case 1: return Unit.placeIn(key);
            case 2: return Unit.kindIn(key);
            default: return BAD;
        }
    }

    public int kind(int k, int what) {
        Kinds kinds = unit.kinds;
        if (!kinds.has(k)) {
            return BAD;
        }
        switch (what) {
            case 0: return kinds.parents[k];
            case 1: return bit(kinds.isChecked(k));
            case 2: return kinds.places[k];
            default: return BAD;
        }
    }

    public boolean below(int a, int b) {
        return unit.kinds.isUnder(a, b);
    }

    public int method(int m, int what) {
        Way way = unit.wayAt(m);
        if (way == null) {
            return BAD;
        }
        Block block = way.block;
        switch (what) {
            case 0: return way.place;
            case 1: return bit(block != null);
            case 2: return block == null ? 0 : block.canThrow;
            case 3: return way.thrown.asSet();
            case 4: return bit(block != null && block.left);
            case 5: return bit(way.free);
            case 6: return way.over;
            default: return BAD;
        }
    }

    public int statement(int i, int what) {
        if (i < 0 || i >= unit.statements.size()) {
            return BAD;
        }
        Statement one = unit.statements.get(i);
        switch (what) {
            case 0: return one.sort;
            case 1: return one.place;
            case 2: return one.canThrow;
            case 3: return bit(one.left);
            case 4: return one.way;
            default: return BAD;
        }
    }

    public int find() {
        long name = tape.onlyName();
        tape.length = 0;
        if (name == 0) {
            return NONE;
        }
        int asKind = unit.kinds.named(name);
        if (asKind != NONE) {
            return FOUND_KIND + asKind;
        }
        int asWay = unit.wayNamed(name);
        return asWay == NONE ? NONE : FOUND_WAY + asWay;
    }

    public int walk(int m, long seed) {
        Way way = unit.wayAt(m);
        if (way == null || way.block == null) {
            return BAD;
        }
        return walker.start(unit, way.block, seed);
    }

    public int steps() {
        return walker.begun;
    }

    private static int bit(boolean yes) {
        return yes ? 1 : 0;
    }

    /** THE TAPE, and the place on it up to which TOKENS were taken. */
    private static final class Tape {
        private final byte[] bytes = new byte[TAPE_LIMIT];
        private final long[] keywords = new long[KEYWORD_COUNT];
        private int length;
        private int position;
        private int token;
        private int place;
        private long word;

        Tape() {
            int which = 0;
            long code = 0;
            for (int i = 0; i < KEYWORDS.length(); i++) {
                char c = KEYWORDS.charAt(i);
                if (c != ' ') {
                    code = withLetter(code, c);
                } else if (which < keywords.length) {
                    keywords[which] = code;
                    which++;
                    code = 0;
                }
            }
        }

        // Words are longs, five bits a letter: no word is 0, and no two of up to eight letters are the same.
        static long withLetter(long code, int letter) {
            return code * 32 + (letter - 'a' + 1);
        }

        static long codeOf(String text) {
            long code = 0;
            for (int i = 0; i < text.length(); i++) {
                code = withLetter(code, text.charAt(i));
            }
            return code;
        }

        void append(int number) {
            for (int shift = 24; shift >= 0; shift -= 8) {
                if (length >= 0 && length < bytes.length) {
                    bytes[length] = (byte) (number >>> shift);
                    length++;
                }
            }
        }

        int byteAt(int i) {
            return i >= 0 && i < length && i < bytes.length ? bytes[i] & 255 : NONE;
        }

        void start() {
            position = 0;
            advance();
        }

        void advance() {
            while (position < length && isBlank(byteAt(position))) {
                position++;
            }
            place = position;
            word = 0;
            while (position < length && isLetter(byteAt(position))) {
                word = withLetter(word, byteAt(position));
                position++;
            }
            if (position > place) {
                token = tokenOfWord();
            } else {
                token = tokenOfSign(byteAt(position));
                position++;
            }
        }

        int tokenOfWord() {
            if (position - place > WORD_LIMIT) {
                return WRONG;
            }
            for (int i = 0; i < keywords.length; i++) {
                if (keywords[i] == word) {
                    return i;
                }
            }
            return NAME;
        }

        static int tokenOfSign(int c) {
            if (c == NONE) {
                return END;
            }
            int which = SIGNS.indexOf((char) c);
            return which < 0 ? WRONG : OPEN + which;
        }

        static boolean isBlank(int c) {
            return c == 32 || c == 10;
        }

        static boolean isLetter(int c) {
            return c >= 'a' && c <= 'z';
        }

        /** The NAME that THE TAPE is, wholly; 0 if it is none. */
        long onlyName() {
            start();
            return token == NAME && place == 0 && position == length ? word : 0;
        }
    }

    /** The KINDS; sets of them are ints, bit k for KIND k. */
    private static final class Kinds {
        private final long[] names = new long[KIND_LIMIT];
        private final int[] parents = new int[KIND_LIMIT];
        private final int[] places = new int[KIND_LIMIT];
        // For each KIND the set of those that it is below, itself too.
        private final int[] over = new int[KIND_LIMIT];
        private int checked;
        private int count;

        Kinds() {
            add(Tape.codeOf("all"), NONE, NONE);
            add(Tape.codeOf("plain"), ALL, NONE);
            add(Tape.codeOf("loose"), PLAIN, NONE);
            add(Tape.codeOf("error"), ALL, NONE);
        }

        void add(long name, int parent, int place) {
            if (count >= 0 && count < KIND_LIMIT) {
                names[count] = name;
                parents[count] = parent;
                places[count] = place;
                over[count] = overOf(parent) | 1 << count;
                if ((over[count] & UNCHECKED) == 0) {
                    checked |= 1 << count;
                }
                count++;
            }
        }

        boolean has(int k) {
            return k >= 0 && k < count && k < KIND_LIMIT;
        }

        int named(long name) {
            for (int k = 0; k < count && k < KIND_LIMIT; k++) {
                if (names[k] == name) {
                    return k;
                }
            }
            return NONE;
        }

        int overOf(int k) {
            return k >= 0 && k < count && k < KIND_LIMIT ? over[k] : 0;
        }

        boolean isUnder(int a, int b) {
            return has(b) && (overOf(a) >> b & 1) == 1;
        }

        boolean isUnderOneOf(int k, int set) {
            return (overOf(k) & set) != 0;
        }

        /** Whether a KIND is below one of a set, or one of the set below it. */
        boolean isNear(int kind, int set) {
            for (int other = 0; other < count; other++) {
                if ((set >> other & 1) == 1 && (isUnder(kind, other) || isUnder(other, kind))) {
                    return true;
                }
            }
            return false;
        }

        /** That one of two KINDS which is below the other one, as a set; none, if neither is. */
        int lowerOf(int a, int b) {
            if ((overOf(a) >> b & 1) == 1) {
                return 1 << a;
            }
            return (overOf(b) >> a & 1) == 1 ? 1 << b : 0;
        }

        boolean isChecked(int k) {
            return has(k) && (checked >> k & 1) == 1;
        }

        /** Those of a set that are below none of the others. */
        int notUnder(int set, int others) {
            int rest = 0;
            for (int k = 0; k < count; k++) {
                if ((set >> k & 1) == 1 && (overOf(k) & others) == 0) {
                    rest |= 1 << k;
                }
            }
            return rest;
        }

        int checkedOf(int set) {
            return set & checked;
        }

        /** The lowest KIND that all of a set are below, as a set of one. */
        int lowestOverAll(int set) {
            int common = NONE;
            for (int k = 0; k < count; k++) {
                if ((set >> k & 1) == 1) {
                    common &= overOf(k);
                }
            }
            for (int k = 0; k < count; k++) {
                if (overOf(k) == common) {
                    return 1 << k;
                }
            }
            return 0;
        }
    }

    /** The NAMES of one throws, one ( ) of try or one catch, and what they mean (NONE: unknown). */
    private static final class Names {
        private final long[] words = new long[NAME_LIMIT];
        private final int[] places = new int[NAME_LIMIT];
        private final int[] meant = new int[NAME_LIMIT];
        private int count;

        void add(long word, int place) {
            if (count >= 0 && count < NAME_LIMIT) {
                words[count] = word;
                places[count] = place;
                meant[count] = NONE;
                count++;
            }
        }

        boolean has(int i) {
            return i >= 0 && i < count && i < NAME_LIMIT;
        }

        int meantAt(int i) {
            return has(i) ? meant[i] : NONE;
        }

        int placeAt(int i) {
            return has(i) ? places[i] : NONE;
        }

        int asSet() {
            return asSetAheadOf(count);
        }

        int asSetAheadOf(int end) {
            int set = 0;
            for (int i = 0; i < end && i < count && i < NAME_LIMIT; i++) {
                if (meant[i] >= 0) {
                    set |= 1 << meant[i];
                }
            }
            return set;
        }

        int countKnown() {
            int known = 0;
            for (int i = 0; i < NAME_LIMIT; i++) {
                if (meantAt(i) >= 0) {
                    known++;
                }
            }
            return known;
        }

        /** What the n-th known one means, from 1 on. */
        int knownAt(int n) {
            int known = 0;
            for (int i = 0; i < NAME_LIMIT; i++) {
                if (meantAt(i) >= 0) {
                    known++;
                    if (known == n) {
                        return meantAt(i);
                    }
                }
            }
            return NONE;
        }
    }

    /** A METHOD. */
    private static final class Way {
        private final Names thrown = new Names();
        private long name;
        private int place;
        private boolean isOver;
        private long overName;
        private int overPlace;
        private int over = NONE;
        private boolean free;
        private Block block;
    }

    /** A BLOCK: its STATEMENTS are a chain. */
    private static final class Block {
        private final int place;
        private Statement first;
        private int canThrow;
        private boolean left;

        Block(int place) {
            this.place = place;
        }
    }

    /** A catch, and what its PARAMETER is while its BLOCK is walked. */
    private static final class Catch {
        private final Names kinds = new Names();
        private final Catch around;
        private final int lambdas;
        private long name;
        private boolean isSet;
        private Block block;
        private Catch next;
        // What can come here: INSIDE of the try, and the KINDS of the catches ahead.
        private int inside;
        private int ahead;
        private int value = NONE;

        Catch(Catch around, int lambdas) {
            this.around = around;
            this.lambdas = lambdas;
        }
    }

    /** A STATEMENT of any sort: what a sort has not is null or NONE. */
    private static final class Statement {
        private final int sort;
        private final int place;
        private final int way;
        private final int lambdas;
        private Statement next;
        private long name;
        private int namePlace;
        private int meant = NONE;
        private Catch parameter;
        private Block block;
        // The BLOCK of else or of finally.
        private Block other;
        // The NAMES in the ( ) of try, or behind the throws of run.
        private Names names;
        private Catch catches;
        private boolean belongs;
        private int canThrow;
        private boolean left;

        Statement(int sort, int place, int way, int lambdas) {
            this.sort = sort;
            this.place = place;
            this.way = way;
            this.lambdas = lambdas;
        }
    }

    /** A text that was read, with its MISTAKES. */
    private static final class Unit {
        private final Kinds kinds = new Kinds();
        private final ArrayList<Way> ways = new ArrayList<>();
        private final ArrayList<Statement> statements = new ArrayList<>();
        // Place, code and KIND in one number each: their order is the MISTAKES' order.
        private final ArrayList<Integer> mistakes = new ArrayList<>();

        void note(int code, int place, int kind) {
            int key = place << 9 | code << 5 | kind + 1;
            int at = mistakes.size();
            while (at > 0 && mistakes.get(at - 1) > key) {
                at--;
            }
            mistakes.add(at, key);
        }

        static int placeIn(int key) {
            return key >> 9;
        }

        static int codeIn(int key) {
            return key >> 5 & 15;
        }

        static int kindIn(int key) {
            return (key & 31) - 1;
        }

        Way wayAt(int m) {
            return m >= 0 && m < ways.size() ? ways.get(m) : null;
        }

        int wayNamed(long name) {
            for (int m = 0; m < ways.size(); m++) {
                Way way = ways.get(m);
                if (way != null && way.name == name) {
                    return m;
                }
            }
            return NONE;
        }
    }

    /**
     * Makes a UNIT of THE TAPE. Behind the first wrong TOKEN no token is taken any more and none
     * is as expected, so that every method comes to its end.
     */
    private static final class Parser {
        private final Tape tape;
        private final Unit unit;
        private int wrong = NONE;
        private int braces;
        private int lambdas;
        private boolean inLoop;
        private Catch scope;

        Parser(Tape tape, Unit unit) {
            this.tape = tape;
            this.unit = unit;
        }

        /** The place where the text is wrong; NONE if it is right. */
        int parse() {
            tape.start();
            for (int n = 0; n < TAPE_LIMIT && (at(KIND_WORD) || at(WAY_WORD)); n++) {
                if (at(KIND_WORD)) {
                    tellKind();
                } else {
                    tellWay();
                }
            }
            if (!at(END)) {
                refuse();
            }
            return wrong;
        }

        boolean at(int token) {
            return wrong == NONE && tape.token == token;
        }

        void refuse() {
            if (wrong == NONE) {
                wrong = tape.place;
            }
        }

        boolean skip(int token) {
            if (!at(token)) {
                return false;
            }
            tape.advance();
            return true;
        }

        void take(int token) {
            if (at(token)) {
                tape.advance();
            } else {
                refuse();
            }
        }

        long takeName() {
            long name = tape.word;
            if (at(NAME)) {
                tape.advance();
            } else {
                refuse();
            }
            return name;
        }

        void tellKind() {
            if (unit.kinds.count >= KIND_LIMIT) {
                refuse();
                return;
            }
            take(KIND_WORD);
            int place = tape.place;
            long name = takeName();
            take(BELOW_WORD);
            int parentPlace = tape.place;
            int parent = unit.kinds.named(takeName());
            take(SEMICOLON);
            if (parent == NONE) {
                unit.note(UNKNOWN, parentPlace, NONE);
            }
            if (unit.kinds.named(name) != NONE) {
                unit.note(TAKEN, place, NONE);
            }
            unit.kinds.add(name, parent == NONE ? PLAIN : parent, place);
        }

        void tellWay() {
            if (unit.ways.size() >= WAY_LIMIT) {
                refuse();
                return;
            }
            take(WAY_WORD);
            Way way = new Way();
            way.place = tape.place;
            way.name = takeName();
            if (unit.wayNamed(way.name) != NONE) {
                unit.note(TAKEN, way.place, NONE);
            }
            unit.ways.add(way);
            way.isOver = skip(OVER_WORD);
            if (way.isOver) {
                way.overPlace = tape.place;
                way.overName = takeName();
            }
            way.free = skip(FREE_WORD);
            if (skip(THROWS_WORD)) {
                takeNames(way.thrown, COMMA);
                knowKinds(way.thrown);
            }
            if (!skip(SEMICOLON)) {
                way.block = takeBlock();
            }
        }

        void takeNames(Names names, int separator) {
            for (int n = 0; n < NAME_LIMIT; n++) {
                int place = tape.place;
                names.add(takeName(), place);
                if (!skip(separator)) {
                    return;
                }
            }
            refuse();
        }

        /** A told KIND is known behind it alone, so NAMES of KINDS are looked up as they come. */
        void knowKinds(Names names) {
            for (int i = 0; i < names.count && i < NAME_LIMIT; i++) {
                int kind = unit.kinds.named(names.words[i]);
                names.meant[i] = kind;
                if (kind == NONE) {
                    unit.note(UNKNOWN, names.places[i], NONE);
                }
            }
        }

        private Block takeBlock() {
            if (braces >= BRACE_LIMIT) {
                refuse();
            }
            Block block = new Block(tape.place);
            take(OPEN);
            braces++;
            Statement last = null;
            for (int n = 0; n <= STATEMENT_LIMIT && wrong == NONE && !at(CLOSE); n++) {
                Statement one = takeStatement();
                if (last == null) {
                    block.first = one;
                } else {
                    last.next = one;
                }
                last = one;
            }
            braces--;
            take(CLOSE);
            return block;
        }

        private Block takeLambda() {
            boolean outside = inLoop;
            inLoop = false;
            lambdas++;
            Block block = takeBlock();
            lambdas--;
            inLoop = outside;
            return block;
        }

        private Block takeLoop() {
            boolean outside = inLoop;
            inLoop = true;
            Block block = takeBlock();
            inLoop = outside;
            return block;
        }

        int sortHere() {
            if (at(OPEN)) {
                return BLOCK;
            }
            return wrong == NONE && tape.token >= 0 && tape.token <= RUN ? tape.token : NONE;
        }

        private Statement takeStatement() {
            int sort = sortHere();
            Statement one = new Statement(sort, tape.place, unit.ways.size() - 1, lambdas);
            if (sort == NONE || unit.statements.size() >= STATEMENT_LIMIT) {
                refuse();
                return one;
            }
            unit.statements.add(one);
            if (sort == BLOCK) {
                one.block = takeBlock();
                return one;
            }
            take(sort);
            switch (sort) {
                case IF:
                    takeIf(one);
                    return one;
                case WHILE:
                case LOOP:
                    one.block = takeLoop();
                    return one;
                case TRY:
                    takeTry(one);
                    return one;
                case CALL:
                case THROW:
                case SET:
                    takeNaming(one);
                    break;
                case BREAK:
                    tieBreak(one);
                    break;
                case RUN:
                    takeRun(one);
                    break;
                default:
                    break;
            }
            take(SEMICOLON);
            return one;
        }

        private void takeIf(Statement one) {
            one.block = takeBlock();
            if (skip(ELSE_WORD)) {
                one.other = takeBlock();
            }
        }

        private void takeRun(Statement one) {
            one.block = takeLambda();
            one.names = new Names();
            if (skip(THROWS_WORD)) {
                takeNames(one.names, COMMA);
                knowKinds(one.names);
            }
        }

        void tieBreak(Statement one) {
            one.belongs = inLoop;
            if (!inLoop) {
                unit.note(STRAY_BREAK, one.place, NONE);
            }
        }

        private void takeNaming(Statement one) {
            one.namePlace = tape.place;
            one.name = takeName();
            if (one.sort == CALL) {
                if (at(OPEN)) {
                    one.block = takeLambda();
                }
                return;
            }
            one.parameter = parameterNamed(one.name);
            if (one.sort == SET) {
                noteSet(one);
            } else if (one.parameter == null) {
                one.meant = unit.kinds.named(one.name);
                if (one.meant == NONE) {
                    unit.note(UNKNOWN, one.namePlace, NONE);
                }
            }
        }

        void noteSet(Statement one) {
            Catch parameter = one.parameter;
            if (parameter == null) {
                unit.note(UNKNOWN, one.namePlace, NONE);
                return;
            }
            parameter.isSet = true;
            if (parameter.kinds.count >= 2) {
                unit.note(SET_OF_MANY, one.namePlace, NONE);
            }
            if (parameter.lambdas < one.lambdas) {
                unit.note(CAPTURED, one.namePlace, NONE);
            }
        }

        Catch parameterNamed(long name) {
            for (Catch one = scope; one != null; one = one.around) {
                if (one.name == name) {
                    return one;
                }
            }
            return null;
        }

        private void takeTry(Statement one) {
            one.names = new Names();
            boolean whole = skip(LEFT_ROUND);
            if (whole) {
                takeNames(one.names, COMMA);
                take(RIGHT_ROUND);
            }
            one.block = takeBlock();
            Catch last = null;
            for (int n = 0; n < CATCH_LIMIT && at(CATCH_WORD); n++) {
                Catch caught = takeCatch();
                if (last == null) {
                    one.catches = caught;
                } else {
                    last.next = caught;
                }
                last = caught;
                whole = true;
            }
            if (at(CATCH_WORD)) {
                refuse();
            }
            if (skip(FINALLY_WORD)) {
                one.other = takeBlock();
                whole = true;
            }
            if (!whole) {
                refuse();
            }
        }

        private Catch takeCatch() {
            Catch one = new Catch(scope, lambdas);
            take(CATCH_WORD);
            take(LEFT_ROUND);
            takeNames(one.kinds, BAR);
            knowKinds(one.kinds);
            int place = tape.place;
            one.name = takeName();
            take(RIGHT_ROUND);
            if (parameterNamed(one.name) != null) {
                unit.note(TAKEN, place, NONE);
            }
            scope = one;
            one.block = takeBlock();
            scope = one.around;
            return one;
        }
    }

    /** Tells of a whole UNIT what its STATEMENTS can throw, which can be LEFT, and the MISTAKES in that. */
    private static final class Judge {
        private final Unit unit;
        private final Kinds kinds;

        Judge(Unit unit) {
            this.unit = unit;
            this.kinds = unit.kinds;
        }

        void judge() {
            for (int m = 0; m < unit.ways.size(); m++) {
                Way way = unit.ways.get(m);
                if (way != null) {
                    judgeWay(way);
                }
            }
        }

        void judgeWay(Way way) {
            judgeBlock(way.block);
            noteUntold(way.block, way.thrown, way.place);
            if (!way.isOver) {
                return;
            }
            way.over = unit.wayNamed(way.overName);
            Way above = unit.wayAt(way.over);
            if (above == null) {
                unit.note(UNKNOWN, way.overPlace, NONE);
            } else {
                noteWider(way.thrown, above.thrown.asSet());
            }
        }

        void noteWider(Names thrown, int allowed) {
            for (int i = 0; i < NAME_LIMIT; i++) {
                int kind = thrown.meantAt(i);
                if (kinds.isChecked(kind) && !kinds.isUnderOneOf(kind, allowed)) {
                    unit.note(WIDER_THAN_OVER, thrown.placeAt(i), kind);
                }
            }
        }

        void noteUntold(Block block, Names thrown, int place) {
            if (block == null || thrown == null) {
                return;
            }
            int untold = kinds.notUnder(kinds.checkedOf(block.canThrow), thrown.asSet());
            for (int k = 0; k < KIND_LIMIT; k++) {
                if ((untold >> k & 1) == 1) {
                    unit.note(UNTOLD, place, k);
                }
            }
        }

        private void judgeBlock(Block block) {
            if (block == null) {
                return;
            }
            block.canThrow = 0;
            block.left = true;
            for (Statement one = block.first; one != null; one = one.next) {
                if (!block.left) {
                    unit.note(NEVER_REACHED, one.place, NONE);
                }
                judgeStatement(one);
                block.canThrow |= one.canThrow;
                block.left = one.left;
            }
        }

        private void judgeStatement(Statement one) {
            if (one.sort == TRY) {
                judgeTry(one);
                return;
            }
            judgeBlock(one.block);
            judgeBlock(one.other);
            one.left = true;
            switch (one.sort) {
                case CALL:
                    judgeCall(one);
                    break;
                case THROW:
                    judgeThrow(one);
                    one.left = false;
                    break;
                case BREAK:
                case RETURN:
                    one.left = false;
                    break;
                case RUN:
                    noteUntold(one.block, one.names, one.place);
                    break;
                case IF:
                    one.canThrow = throwOf(one.block) | throwOf(one.other);
                    one.left = one.other == null || isLeft(one.block) || isLeft(one.other);
                    break;
                case LOOP:
                    one.canThrow = throwOf(one.block);
                    one.left = hasBreak(one.block);
                    break;
                case WHILE:
                    one.canThrow = throwOf(one.block);
                    break;
                case BLOCK:
                    one.canThrow = throwOf(one.block);
                    one.left = isLeft(one.block);
                    break;
                default:
                    break;
            }
        }

        static int throwOf(Block block) {
            return block == null ? 0 : block.canThrow;
        }

        static boolean isLeft(Block block) {
            return block == null || block.left;
        }

        void judgeCall(Statement one) {
            one.meant = unit.wayNamed(one.name);
            Way way = unit.wayAt(one.meant);
            if (way == null) {
                unit.note(UNKNOWN, one.namePlace, NONE);
                return;
            }
            one.canThrow = way.thrown.asSet();
            if (way.free) {
                one.canThrow |= variableOf(one.block);
            } else if (one.block != null) {
                unit.note(LAMBDA_UNWANTED, one.block.place, NONE);
            }
        }

        int variableOf(Block lambda) {
            int checked = kinds.checkedOf(throwOf(lambda));
            return checked == 0 ? 1 << LOOSE : kinds.lowestOverAll(checked);
        }

        void judgeThrow(Statement one) {
            Catch parameter = one.parameter;
            if (parameter == null) {
                one.canThrow = one.meant == NONE ? 0 : 1 << one.meant;
                return;
            }
            one.canThrow = parameter.isSet ? parameter.kinds.asSet() : canBe(parameter);
            if (parameter.isSet && parameter.lambdas < one.lambdas) {
                unit.note(CAPTURED, one.namePlace, NONE);
            }
        }

        /** What the PARAMETER of a catch, which is not SET, can be. */
        int canBe(Catch parameter) {
            int coming = kinds.notUnder(parameter.inside | UNCHECKED, parameter.ahead);
            int caught = parameter.kinds.asSet();
            int set = 0;
            for (int k = 0; k < KIND_LIMIT; k++) {
                for (int a = 0; a < KIND_LIMIT; a++) {
                    if ((coming >> k & 1) == 1 && (caught >> a & 1) == 1) {
                        set |= kinds.lowerOf(k, a);
                    }
                }
            }
            return set;
        }

        /** Whether a break in a BLOCK belongs to the loop around it and is held by no finally. */
        private boolean hasBreak(Block block) {
            if (block == null) {
                return false;
            }
            for (Statement one = block.first; one != null; one = one.next) {
                if (one.sort == BREAK || hasBreakInside(one)) {
                    return true;
                }
            }
            return false;
        }

        private boolean hasBreakInside(Statement one) {
            if (one.sort == IF || one.sort == BLOCK) {
                return hasBreak(one.block) || hasBreak(one.other);
            }
            if (one.sort != TRY) {
                return false;
            }
            if (hasBreak(one.other)) {
                return true;
            }
            if (!isLeft(one.other)) {
                return false;
            }
            boolean found = hasBreak(one.block);
            for (Catch each = one.catches; each != null && !found; each = each.next) {
                found = hasBreak(each.block);
            }
            return found;
        }

        private void judgeTry(Statement one) {
            judgeBlock(one.block);
            int inside = throwOf(one.block) | closing(one.names);
            int ahead = 0;
            int thrown = 0;
            boolean left = isLeft(one.block);
            for (Catch each = one.catches; each != null; each = each.next) {
                each.inside = inside;
                each.ahead = ahead;
                noteCatch(each);
                judgeBlock(each.block);
                thrown |= throwOf(each.block);
                left |= isLeft(each.block);
                ahead |= each.kinds.asSet();
            }
            thrown |= kinds.notUnder(inside, ahead);
            judgeBlock(one.other);
            one.canThrow = throwOf(one.other) | (isLeft(one.other) ? thrown : 0);
            one.left = left && isLeft(one.other);
        }

        /** What the METHODS in the ( ) of a try can throw. */
        int closing(Names names) {
            int set = 0;
            for (int i = 0; names != null && i < names.count && i < NAME_LIMIT; i++) {
                names.meant[i] = unit.wayNamed(names.words[i]);
                Way way = unit.wayAt(names.meant[i]);
                if (way == null) {
                    unit.note(UNKNOWN, names.places[i], NONE);
                } else {
                    set |= way.thrown.asSet();
                }
            }
            return set;
        }

        void noteCatch(Catch one) {
            int inside = kinds.checkedOf(one.inside);
            for (int i = 0; i < NAME_LIMIT; i++) {
                int kind = one.kinds.meantAt(i);
                if (kind != NONE) {
                    int place = one.kinds.placeAt(i);
                    int before = one.kinds.asSetAheadOf(i);
                    if (kind > PLAIN && kinds.isChecked(kind) && !kinds.isNear(kind, inside)) {
                        unit.note(NEVER_THROWN, place, kind);
                    }
                    if (kinds.isUnderOneOf(kind, one.ahead)) {
                        unit.note(CAUGHT_AHEAD, place, kind);
                    }
                    if (kinds.isNear(kind, before)) {
                        unit.note(DOUBLED, place, kind);
                    }
                }
            }
        }
    }

    /** Walks BLOCKS; what is walked ends DONE, BROKEN, RETURNED, ENDLESS or with the KIND that is thrown. */
    private static final class Walker {
        private Unit unit;
        private long drawn;
        private int begun;

        int start(Unit whole, Block block, long seed) {
            unit = whole;
            drawn = seed;
            begun = 0;
            int end = goThrough(block);
            return end == BROKEN || end == RETURNED ? NONE : end;
        }

        int draw(int n) {
            drawn = drawn * 6364136223846793005L + 1442695040888963407L;
            return n <= 0 ? 0 : (int) ((drawn >>> 33) % n);
        }

        boolean begin() {
            if (begun >= STEP_LIMIT) {
                return false;
            }
            begun++;
            return true;
        }

        private int goThrough(Block block) {
            if (block == null) {
                return DONE;
            }
            for (Statement one = block.first; one != null; one = one.next) {
                int end = begin() ? goOver(one) : ENDLESS;
                if (end != DONE) {
                    return end;
                }
            }
            return DONE;
        }

        private int goOver(Statement one) {
            switch (one.sort) {
                case CALL: return goCall(one.meant, one.block);
                case THROW: return one.parameter == null ? one.meant : one.parameter.value;
                case SET: return setParameter(one.parameter);
                case IF: return goThrough(draw(2) == 1 ? one.block : one.other);
                case WHILE:
                case LOOP: return goRound(one);
                case BREAK: return one.belongs ? BROKEN : DONE;
                case RETURN: return RETURNED;
                case TRY: return goTry(one);
                case BLOCK: return goThrough(one.block);
                default: return DONE;
            }
        }

        private int goCall(int m, Block lambda) {
            Way way = unit == null ? null : unit.wayAt(m);
            if (way == null) {
                return DONE;
            }
            if (lambda != null && way.free && draw(2) == 1) {
                int end = goThrough(lambda);
                if (end >= 0 || end == ENDLESS) {
                    return end;
                }
            }
            int which = draw(1 + way.thrown.countKnown());
            return which == 0 ? DONE : way.thrown.knownAt(which);
        }

        int setParameter(Catch parameter) {
            if (parameter != null && parameter.kinds.countKnown() > 0) {
                parameter.value = parameter.kinds.knownAt(1);
            }
            return DONE;
        }

        private int goRound(Statement one) {
            for (int n = 0; n <= STEP_LIMIT; n++) {
                // The first time is a STEP already.
                if (n > 0 && !begin()) {
                    return ENDLESS;
                }
                if (one.sort == WHILE && draw(2) == 0) {
                    return DONE;
                }
                int end = goThrough(one.block);
                if (end != DONE) {
                    return end == BROKEN ? DONE : end;
                }
            }
            return ENDLESS;
        }

        private int goTry(Statement one) {
            int end = goThrough(one.block);
            if (end != ENDLESS) {
                end = goCatch(one, goClose(one.names, end));
            }
            if (end == ENDLESS) {
                return ENDLESS;
            }
            int last = goThrough(one.other);
            return last == DONE ? end : last;
        }

        private int goClose(Names names, int end) {
            int now = end;
            for (int i = NAME_LIMIT - 1; names != null && i >= 0; i--) {
                int thrown = goCall(names.meantAt(i), null);
                if (now < 0 && thrown >= 0) {
                    now = thrown;
                }
            }
            return now;
        }

        private int goCatch(Statement one, int end) {
            if (end < 0 || unit == null) {
                return end;
            }
            for (Catch each = one.catches; each != null; each = each.next) {
                if (unit.kinds.isUnderOneOf(end, each.kinds.asSet())) {
                    each.value = end;
                    return goThrough(each.block);
                }
            }
            return end;
        }
    }
}
