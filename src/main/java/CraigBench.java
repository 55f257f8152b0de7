import java.util.Arrays;

/**
 * A bench for Craig's theorem: reads clauses in blocks and resolutions of them, and tells interpolants of their
 * refutation as decision graphs. The promises that it keeps stand in the project's document.
 */
public final class CraigBench {
    public static final int NONE = -1;
    public static final int RANGE = -2;
    public static final int FULL = -3;

    private static final int VARIABLES = 10;
    private static final int ALL_VARIABLES = (1 << VARIABLES) - 1;
    private static final int BLOCKS = 8;
    private static final int CUTS = 7;
    private static final int SYSTEMS = 4;
    private static final int MOST_CLAUSES = 200;
    private static final int MOST_GIVEN = 60;
    private static final int MOST_BYTES = 2000;
    private static final int FED_BYTES = 20;
    private static final int VALUATIONS = 1 << VARIABLES;

    // A formula is held as its truth table: 64 valuations to a word.
    private static final int WORD_BITS = 64;
    private static final int WORDS = VALUATIONS / WORD_BITS;

    private static final int LABEL_A = 1;
    private static final int LABEL_B = 2;
    private static final int LABEL_AB = 3;

    private final Tape tape;
    private final Clauses clauses;
    private final Reader reader;
    private final Labels labels;
    private final Formulas formulas;
    private final Answer answer;
    // Two tables beside the answer, so that follows() and gap() leave what interpolate() told.
    private final long[] table;
    private final long[] nextTable;

    public CraigBench() {
        tape = new Tape();
        clauses = new Clauses();
        reader = new Reader(tape, clauses);
        labels = new Labels();
        formulas = new Formulas(clauses, labels);
        answer = new Answer();
        table = new long[WORDS];
        nextTable = new long[WORDS];
    }

    public int feed(int a, int b, int c, int d, int e) {
        if (tape.length > MOST_BYTES - FED_BYTES) {
            return FULL;
        }
        tape.append(a);
        tape.append(b);
        tape.append(c);
        tape.append(d);
        tape.append(e);
        return tape.length;
    }

    public int end(int n) {
        if (n < 0 || n > tape.length) {
            return NONE;
        }
        tape.length = n;
        return n;
    }

    public int read() {
        reader.readText();
        tape.length = 0;
        return reader.kind == 0 ? clauses.keepDraft() : NONE;
    }

    public int fault(int what) {
        switch (what) {
            case 0:
                return reader.kind;
            case 1:
                return reader.place;
            default:
                return NONE;
        }
    }

    public int clear() {
        int had = clauses.size;
        clauses.removeAll();
        labels.reset();
        return had;
    }

    public int clause(int i, int what) {
        if (i < 1 || i > clauses.size) {
            return NONE;
        }
        switch (what) {
            case 0:
                return clauses.block[i];
            case 1:
                return clauses.left[i];
            case 2:
                return clauses.right[i];
            case 3:
                return clauses.pivot[i];
            case 4:
                return clauses.positive[i] | clauses.negative[i];
            case 5:
                return clauses.negative[i];
            case 6:
                return clauses.needed[i] ? 1 : 0;
            default:
                return NONE;
        }
    }

    public int refutation() {
        return clauses.empty == 0 ? NONE : clauses.empty;
    }

    public int eliminate(int v) {
        return isVariable(v) ? clauses.resolveAway(v) : RANGE;
    }

    public int label(int v, int l) {
        if (!isVariable(v) || l < LABEL_A || l > LABEL_AB) {
            return RANGE;
        }
        return labels.exchange(v, l);
    }

    public int variables(int cut, int what) {
        if (!isCut(cut)) {
            return RANGE;
        }
        int ahead = clauses.occurring(1, cut);
        int behind = clauses.occurring(cut + 1, BLOCKS);
        switch (what) {
            case 0:
                return ahead;
            case 1:
                return behind;
            case 2:
                return ahead & behind;
            default:
                return NONE;
        }
    }

    public int interpolate(int cut, int system) {
        if (!isCut(cut) || !isSystem(system)) {
            return RANGE;
        }
        if (clauses.empty == 0) {
            return NONE;
        }
        formulas.choose(cut, system);
        answer.take(formulas, clauses);
        return answer.graph.size;
    }

    public int value(int valuation) {
        return answer.truth(answer.root, valuation);
    }

    public int partial(int i, int valuation) {
        return answer.truth(i, valuation);
    }

    public int told(int what) {
        if (answer.root == 0) {
            return NONE;
        }
        switch (what) {
            case 0:
                return answer.trueValuations();
            case 1:
                return answer.graph.support();
            default:
                return NONE;
        }
    }

    public int graph(int i, int what) {
        return answer.graph.tell(i, what);
    }

    public int follows(int cut, int other, int system) {
        if (!isCut(cut) || !isSystem(other) || !isSystem(system)) {
            return RANGE;
        }
        if (clauses.empty == 0) {
            return NONE;
        }
        formulas.interpolant(cut, other, table);
        formulas.interpolant(cut, system, nextTable);
        for (int word = 0; word < WORDS; word++) {
            if ((table[word] & ~nextTable[word]) != 0) {
                return 0;
            }
        }
        return 1;
    }

    public int gap(int cut, int system, int what) {
        if (!isCut(cut) || !isSystem(system)) {
            return RANGE;
        }
        if (clauses.empty == 0 || what < 0 || what > 2) {
            return NONE;
        }
        formulas.interpolant(cut, system, table);
        if (what == 2) {
            nextInterpolant(cut, system);
        }
        int gaps = 0;
        for (int word = 0; word < WORDS; word++) {
            gaps += Long.bitCount(gapWord(cut, what, word));
        }
        return gaps;
    }

    public int count(int what) {
        switch (what) {
            case 0:
                return clauses.size;
            case 1:
                return clauses.given;
            case 2:
                return clauses.liveOnes();
            case 3:
                return clauses.neededOnes();
            case 4:
                return tape.length;
            default:
                return NONE;
        }
    }

    private void nextInterpolant(int cut, int system) {
        if (cut < CUTS) {
            formulas.interpolant(cut + 1, system, nextTable);
        } else {
            Arrays.fill(nextTable, 0L);
        }
    }

    private long gapWord(int cut, int what, int word) {
        switch (what) {
            case 0:
                return clauses.allTrue(1, cut, word) & ~table[word];
            case 1:
                return clauses.allTrue(cut + 1, BLOCKS, word) & table[word];
            default:
                return clauses.allTrue(cut + 1, cut + 1, word) & table[word] & ~nextTable[word];
        }
    }

    private static boolean isVariable(int v) {
        return v >= 1 && v <= VARIABLES;
    }

    private static boolean isCut(int cut) {
        return cut >= 1 && cut <= CUTS;
    }

    private static boolean isSystem(int system) {
        return system >= 0 && system < SYSTEMS;
    }

    private static int bitOf(int v) {
        return 1 << (v - 1);
    }

    /** The truth tables of the variables and of sets of literals, a word at a time. */
    private static final class Truth {
        // The first six variables change inside a word, the others from word to word.
        private static final int INSIDE = 6;
        private static final long[] PATTERNS = {
            0xAAAAAAAAAAAAAAAAL, 0xCCCCCCCCCCCCCCCCL, 0xF0F0F0F0F0F0F0F0L,
            0xFF00FF00FF00FF00L, 0xFFFF0000FFFF0000L, 0xFFFFFFFF00000000L};

        private Truth() {
        }

        static long ofVariable(int v, int word) {
            if (v >= 1 && v <= INSIDE) {
                return PATTERNS[v - 1];
            }
            return ((word >> (v - 1 - INSIDE)) & 1) == 0 ? 0L : -1L;
        }

        static long ofAny(int positive, int negative, int word) {
            long any = 0L;
            for (int v = 1; v <= VARIABLES; v++) {
                if ((positive & bitOf(v)) != 0) {
                    any |= ofVariable(v, word);
                }
                if ((negative & bitOf(v)) != 0) {
                    any |= ~ofVariable(v, word);
                }
            }
            return any;
        }
    }

    private static final class Tape {
        private final byte[] bytes = new byte[MOST_BYTES];
        private int length;

        void append(int four) {
            for (int shift = 24; shift >= 0; shift -= 8) {
                if (length >= 0 && length < MOST_BYTES) {
                    bytes[length] = (byte) (four >>> shift);
                    length++;
                }
            }
        }

        int byteAt(int i) {
            return i >= 0 && i < length && i < MOST_BYTES ? bytes[i] & 255 : Reader.NO_BYTE;
        }
    }

    /**
     * The clauses, numbered from 1. New ones are drafted behind those that there are, and only count once the draft is
     * kept: a text with a fault, or an elimination without room, then leaves nothing to undo.
     */
    private static final class Clauses {
        private final int[] block = new int[MOST_CLAUSES + 1];
        private final int[] left = new int[MOST_CLAUSES + 1];
        private final int[] right = new int[MOST_CLAUSES + 1];
        private final int[] pivot = new int[MOST_CLAUSES + 1];
        private final int[] positive = new int[MOST_CLAUSES + 1];
        private final int[] negative = new int[MOST_CLAUSES + 1];
        private final boolean[] live = new boolean[MOST_CLAUSES + 1];
        private final boolean[] needed = new boolean[MOST_CLAUSES + 1];
        private int size;
        private int given;
        private int empty;
        private int drafted;
        private int draftedGiven;

        void startDraft() {
            drafted = size;
            draftedGiven = given;
        }

        boolean hasRoom() {
            return drafted < MOST_CLAUSES;
        }

        boolean hasRoomForGiven() {
            return hasRoom() && draftedGiven < MOST_GIVEN;
        }

        boolean isDrafted(int i) {
            return i >= 1 && i <= drafted && i <= MOST_CLAUSES;
        }

        void draftGiven(int ofBlock, int positives, int negatives) {
            if (hasRoomForGiven()) {
                draft(positives, negatives);
                block[drafted] = ofBlock;
                left[drafted] = 0;
                right[drafted] = 0;
                pivot[drafted] = 0;
                draftedGiven++;
            }
        }

        void draftResolvent(int i, int j, int v) {
            if (hasRoom() && isDrafted(i) && isDrafted(j)) {
                draft(positiveRest(i, j, v), negativeRest(i, j, v));
                block[drafted] = 0;
                left[drafted] = i;
                right[drafted] = j;
                pivot[drafted] = v;
            }
        }

        private void draft(int positives, int negatives) {
            drafted++;
            positive[drafted] = positives;
            negative[drafted] = negatives;
            live[drafted] = true;
        }

        int keepDraft() {
            int came = drafted - size;
            size = drafted;
            given = draftedGiven;
            findEmpty();
            markNeeded();
            return came;
        }

        void removeAll() {
            size = 0;
            given = 0;
            empty = 0;
        }

        private void findEmpty() {
            for (int i = 1; i <= size && empty == 0; i++) {
                if ((positive[i] | negative[i]) == 0) {
                    empty = i;
                }
            }
        }

        // Parents have lower numbers than what they are parents of, so one way down is enough.
        private void markNeeded() {
            for (int i = 0; i <= MOST_CLAUSES; i++) {
                needed[i] = i != 0 && i == empty;
            }
            for (int i = empty; i >= 1; i--) {
                if (needed[i] && block[i] == 0) {
                    needed[left[i]] = true;
                    needed[right[i]] = true;
                }
            }
        }

        boolean resolves(int i, int j, int v) {
            return (positive[i] & bitOf(v)) != 0 && (negative[j] & bitOf(v)) != 0;
        }

        boolean clashes(int i, int j, int v) {
            return (positiveRest(i, j, v) & negativeRest(i, j, v)) != 0;
        }

        private int positiveRest(int i, int j, int v) {
            return (positive[i] | positive[j]) & ~bitOf(v);
        }

        private int negativeRest(int i, int j, int v) {
            return (negative[i] | negative[j]) & ~bitOf(v);
        }

        /** How many come; or FULL, with the draft left unkept. */
        int resolveAway(int v) {
            startDraft();
            for (int i = 1; i <= size; i++) {
                for (int j = 1; j <= size; j++) {
                    if (live[i] && live[j] && resolves(i, j, v) && isNews(i, j, v)) {
                        if (!hasRoom()) {
                            return FULL;
                        }
                        draftResolvent(i, j, v);
                    }
                }
            }
            retire(v);
            return keepDraft();
        }

        private boolean isNews(int i, int j, int v) {
            if (clashes(i, j, v)) {
                return false;
            }
            int positives = positiveRest(i, j, v);
            int negatives = negativeRest(i, j, v);
            for (int k = 1; k <= drafted; k++) {
                if (positive[k] == positives && negative[k] == negatives) {
                    return false;
                }
            }
            return true;
        }

        private void retire(int v) {
            for (int i = 1; i <= size; i++) {
                if (((positive[i] | negative[i]) & bitOf(v)) != 0) {
                    live[i] = false;
                }
            }
        }

        private boolean isGivenOf(int i, int fromBlock, int toBlock) {
            return block[i] != 0 && block[i] >= fromBlock && block[i] <= toBlock;
        }

        int occurring(int fromBlock, int toBlock) {
            int bits = 0;
            for (int i = 1; i <= size; i++) {
                if (isGivenOf(i, fromBlock, toBlock)) {
                    bits |= positive[i] | negative[i];
                }
            }
            return bits;
        }

        long allTrue(int fromBlock, int toBlock, int word) {
            long all = -1L;
            for (int i = 1; i <= size; i++) {
                if (isGivenOf(i, fromBlock, toBlock)) {
                    all &= Truth.ofAny(positive[i], negative[i], word);
                }
            }
            return all;
        }

        int liveOnes() {
            int ones = 0;
            for (int i = 1; i <= size; i++) {
                ones += live[i] ? 1 : 0;
            }
            return ones;
        }

        int neededOnes() {
            int ones = 0;
            for (int i = 1; i <= empty; i++) {
                ones += needed[i] ? 1 : 0;
            }
            return ones;
        }
    }

    /** Reads the tape token by token and drafts its clauses; stops at the first fault. */
    private static final class Reader {
        private static final int NO_BYTE = -1;

        // Tokens of one byte are that byte.
        private static final int TEXT_END = -1;
        private static final int NUMBER = -2;
        private static final int NO_TOKEN = -3;

        private static final int SYNTAX = 1;
        private static final int OUT_OF_RANGE = 2;
        private static final int TWICE = 3;
        private static final int PIVOT = 4;
        private static final int BOTH = 5;
        private static final int ROOM = 6;

        // What the reader waits for.
        private static final int AT_START = 0;
        private static final int AT_BLOCK = 1;
        private static final int AT_COLON = 2;
        private static final int AT_LITERAL = 3;
        private static final int AT_NEGATED = 4;
        private static final int AT_LEFT = 5;
        private static final int AT_RIGHT = 6;
        private static final int AT_PIVOT = 7;
        private static final int AT_CLOSE = 8;

        private static final int MOST_DIGITS = 3;

        private final Tape tape;
        private final Clauses clauses;
        private int kind;
        private int place;
        private int at;
        private int token;
        private int tokenPlace;
        private int number;
        private int state;
        private int block;
        private int positive;
        private int negative;
        private int left;
        private int right;
        private int pivot;

        Reader(Tape tape, Clauses clauses) {
            this.tape = tape;
            this.clauses = clauses;
            this.place = NONE;
        }

        void readText() {
            clauses.startDraft();
            kind = 0;
            place = NONE;
            at = 0;
            state = AT_START;
            token = NO_TOKEN;
            for (int tokens = 0; tokens <= MOST_BYTES && kind == 0 && token != TEXT_END; tokens++) {
                nextToken();
                takeToken();
            }
        }

        private void fail(int ofKind) {
            kind = ofKind;
            place = tokenPlace;
        }

        private void nextToken() {
            skipBlanks();
            tokenPlace = at;
            int sign = tape.byteAt(at);
            if (isDigit(sign)) {
                takeDigits();
            } else if (sign == NO_BYTE) {
                token = TEXT_END;
            } else {
                token = isSign(sign) ? sign : NO_TOKEN;
                at++;
            }
        }

        private void skipBlanks() {
            while (at < tape.length && isBlank(tape.byteAt(at))) {
                at++;
            }
        }

        private void takeDigits() {
            number = 0;
            while (at < tape.length && isDigit(tape.byteAt(at))) {
                // A longer run is no number, and must not run over on the way to being found out.
                if (at - tokenPlace < MOST_DIGITS) {
                    number = number * 10 + (tape.byteAt(at) - '0');
                }
                at++;
            }
            token = at - tokenPlace <= MOST_DIGITS ? NUMBER : NO_TOKEN;
        }

        private static boolean isBlank(int sign) {
            return sign == ' ' || sign == '\n';
        }

        private static boolean isDigit(int sign) {
            return sign >= '0' && sign <= '9';
        }

        private static boolean isSign(int sign) {
            return sign == 'c' || sign == 'r' || sign == ':' || sign == ';' || sign == '-';
        }

        private void takeToken() {
            switch (state) {
                case AT_START:
                    takeStart();
                    break;
                case AT_COLON:
                    takeColon();
                    break;
                case AT_LITERAL:
                    takeInsideClause();
                    break;
                case AT_CLOSE:
                    takeClose();
                    break;
                default:
                    takeNumber();
                    break;
            }
        }

        private void takeStart() {
            if (token == 'c') {
                openGiven();
            } else if (token == 'r') {
                openResolvent();
            } else if (token != TEXT_END) {
                fail(SYNTAX);
            }
        }

        private void openGiven() {
            if (clauses.hasRoomForGiven()) {
                state = AT_BLOCK;
            } else {
                fail(ROOM);
            }
        }

        private void openResolvent() {
            if (clauses.hasRoom()) {
                state = AT_LEFT;
            } else {
                fail(ROOM);
            }
        }

        private void takeColon() {
            if (token == ':') {
                positive = 0;
                negative = 0;
                state = AT_LITERAL;
            } else {
                fail(SYNTAX);
            }
        }

        private void takeInsideClause() {
            if (token == '-') {
                state = AT_NEGATED;
            } else if (token == ';') {
                clauses.draftGiven(block, positive, negative);
                state = AT_START;
            } else {
                takeNumber();
            }
        }

        private void takeClose() {
            if (token == ';') {
                clauses.draftResolvent(left, right, pivot);
                state = AT_START;
            } else {
                fail(SYNTAX);
            }
        }

        private void takeNumber() {
            if (token != NUMBER) {
                fail(SYNTAX);
                return;
            }
            switch (state) {
                case AT_BLOCK:
                    takeBlock();
                    break;
                case AT_LEFT:
                    takeLeft();
                    break;
                case AT_RIGHT:
                    takeRight();
                    break;
                case AT_PIVOT:
                    takePivot();
                    break;
                default:
                    takeLiteral();
                    break;
            }
        }

        private void takeBlock() {
            if (number < 1 || number > BLOCKS) {
                fail(OUT_OF_RANGE);
                return;
            }
            block = number;
            state = AT_COLON;
        }

        private void takeLiteral() {
            if (!isVariable(number)) {
                fail(OUT_OF_RANGE);
                return;
            }
            int bit = bitOf(number);
            if (((positive | negative) & bit) != 0) {
                fail(TWICE);
            } else if (state == AT_NEGATED) {
                negative |= bit;
            } else {
                positive |= bit;
            }
            state = AT_LITERAL;
        }

        private void takeLeft() {
            if (!clauses.isDrafted(number)) {
                fail(OUT_OF_RANGE);
                return;
            }
            left = number;
            state = AT_RIGHT;
        }

        private void takeRight() {
            if (!clauses.isDrafted(number)) {
                fail(OUT_OF_RANGE);
                return;
            }
            right = number;
            state = AT_PIVOT;
        }

        private void takePivot() {
            if (!isVariable(number)) {
                fail(OUT_OF_RANGE);
            } else if (!clauses.resolves(left, right, number)) {
                fail(PIVOT);
            } else if (clauses.clashes(left, right, number)) {
                fail(BOTH);
            }
            pivot = number;
            state = AT_CLOSE;
        }
    }

    /** The labels that one sets oneself, for system 3. */
    private static final class Labels {
        private final int[] of = new int[VARIABLES + 1];

        Labels() {
            Arrays.fill(of, LABEL_B);
        }

        void reset() {
            Arrays.fill(of, LABEL_B);
        }

        int exchange(int v, int l) {
            int was = of[v];
            of[v] = l;
            return was;
        }

        int having(int l) {
            int bits = 0;
            for (int v = 1; v <= VARIABLES; v++) {
                if (of[v] == l) {
                    bits |= bitOf(v);
                }
            }
            return bits;
        }
    }

    /**
     * Works out the partial formulas of what the refutation needs, for one cut and system. It goes word by word, so
     * that one row of words is enough for all clauses.
     */
    private static final class Formulas {
        private final Clauses clauses;
        private final Labels labels;
        private final long[] row = new long[MOST_CLAUSES + 1];
        private int cut;
        private int labelledA;
        private int labelledB;

        Formulas(Clauses clauses, Labels labels) {
            this.clauses = clauses;
            this.labels = labels;
        }

        void choose(int ofCut, int system) {
            int ahead = clauses.occurring(1, ofCut);
            int behind = clauses.occurring(ofCut + 1, BLOCKS);
            int shared = ahead & behind;
            cut = ofCut;
            labelledA = (ALL_VARIABLES & ~behind) | (shared & sharedHaving(LABEL_A, system));
            labelledB = (behind & ~ahead) | (shared & sharedHaving(LABEL_B, system));
        }

        private int sharedHaving(int l, int system) {
            switch (system) {
                case 0:
                    return l == LABEL_B ? ALL_VARIABLES : 0;
                case 1:
                    return 0;
                case 2:
                    return l == LABEL_A ? ALL_VARIABLES : 0;
                default:
                    return labels.having(l);
            }
        }

        void workOut(int word) {
            for (int i = 1; i <= clauses.empty; i++) {
                if (clauses.needed[i]) {
                    row[i] = clauses.block[i] == 0 ? ofResolvent(i, word) : ofGiven(i, word);
                }
            }
        }

        private long ofGiven(int i, int word) {
            int positive = clauses.positive[i];
            int negative = clauses.negative[i];
            if (clauses.block[i] <= cut) {
                return Truth.ofAny(positive & labelledB, negative & labelledB, word);
            }
            return ~Truth.ofAny(positive & labelledA, negative & labelledA, word);
        }

        private long ofResolvent(int i, int word) {
            long p = row[clauses.left[i]];
            long q = row[clauses.right[i]];
            int v = clauses.pivot[i];
            if ((labelledA & bitOf(v)) != 0) {
                return p | q;
            }
            if ((labelledB & bitOf(v)) != 0) {
                return p & q;
            }
            long truth = Truth.ofVariable(v, word);
            return (truth | p) & (~truth | q);
        }

        void interpolant(int ofCut, int system, long[] words) {
            choose(ofCut, system);
            for (int word = 0; word < WORDS && word < words.length; word++) {
                workOut(word);
                words[word] = row[clauses.empty];
            }
        }
    }

    /** What interpolate() told latest. It keeps its own words, since clauses and labels may change behind it. */
    private static final class Answer {
        private final long[] words = new long[(MOST_CLAUSES + 1) * WORDS];
        private final boolean[] known = new boolean[MOST_CLAUSES + 1];
        private final Graph graph = new Graph();
        private int root;

        void take(Formulas formulas, Clauses clauses) {
            root = clauses.empty;
            for (int i = 1; i <= MOST_CLAUSES; i++) {
                known[i] = clauses.needed[i];
            }
            for (int word = 0; word < WORDS; word++) {
                formulas.workOut(word);
                for (int i = 1; i <= root; i++) {
                    words[i * WORDS + word] = formulas.row[i];
                }
            }
            graph.build(words, root * WORDS);
        }

        int truth(int i, int valuation) {
            if (i < 1 || i > MOST_CLAUSES || !known[i] || valuation < 0 || valuation >= VALUATIONS) {
                return NONE;
            }
            return Graph.bitAt(words, i * WORDS, valuation);
        }

        int trueValuations() {
            int ones = 0;
            for (int word = 0; word < WORDS; word++) {
                ones += Long.bitCount(words[root * WORDS + word]);
            }
            return ones;
        }
    }

    /** A reduced decision graph of a truth table. */
    private static final class Graph {
        private static final int FALSE_SIDE = -2;
        private static final int TRUE_SIDE = -3;
        private static final int UNNUMBERED = -1;
        // Of variable v there are at most 2^(v-1) nodes, and at most 128, 12 and 2 of the last three.
        private static final int MOST_NODES = 127 + 128 + 12 + 2;
        // Each variable on the way down leaves one HIGH side waiting.
        private static final int MOST_WAITING = VARIABLES + 2;

        // Nodes as they are made, from the last variable up; the document's numbers come afterwards.
        private final int[] variable = new int[MOST_NODES];
        private final int[] low = new int[MOST_NODES];
        private final int[] high = new int[MOST_NODES];
        private final int[] numberOf = new int[MOST_NODES];
        private final int[] nodeOf = new int[MOST_NODES];
        private final int[] sides = new int[VALUATIONS];
        private final int[] waiting = new int[MOST_WAITING];
        private int size;

        static int bitAt(long[] words, int from, int valuation) {
            int at = from + valuation / WORD_BITS;
            if (valuation < 0 || at < 0 || at >= words.length) {
                return 0;
            }
            return (int) ((words[at] >>> (valuation % WORD_BITS)) & 1L);
        }

        void build(long[] words, int from) {
            size = 0;
            for (int valuation = 0; valuation < VALUATIONS; valuation++) {
                sides[valuation] = bitAt(words, from, valuation) == 1 ? TRUE_SIDE : FALSE_SIDE;
            }
            // sides[p] becomes what the formula is when the variables below v are as the bits of p say.
            for (int v = VARIABLES; v >= 1; v--) {
                int made = size;
                for (int p = 0; p < bitOf(v); p++) {
                    sides[p] = join(v, sides[p], sides[p + bitOf(v)], made);
                }
            }
            numberFrom(sides[0]);
        }

        private int join(int v, int lowSide, int highSide, int firstOfVariable) {
            if (lowSide == highSide) {
                return lowSide;
            }
            for (int node = firstOfVariable; node < size; node++) {
                if (low[node] == lowSide && high[node] == highSide) {
                    return node;
                }
            }
            if (size >= MOST_NODES) {
                return FALSE_SIDE;
            }
            variable[size] = v;
            low[size] = lowSide;
            high[size] = highSide;
            numberOf[size] = UNNUMBERED;
            size++;
            return size - 1;
        }

        private void numberFrom(int top) {
            int numbered = 0;
            int waitingOnes = 1;
            waiting[0] = top;
            for (int steps = 0; steps <= 2 * MOST_NODES && waitingOnes > 0; steps++) {
                waitingOnes--;
                int node = waiting[waitingOnes];
                if (node >= 0 && numberOf[node] == UNNUMBERED && waitingOnes + 1 < MOST_WAITING) {
                    numberOf[node] = numbered;
                    nodeOf[numbered] = node;
                    numbered++;
                    waiting[waitingOnes] = high[node];
                    waiting[waitingOnes + 1] = low[node];
                    waitingOnes += 2;
                }
            }
        }

        int support() {
            int bits = 0;
            for (int node = 0; node < size; node++) {
                bits |= bitOf(variable[node]);
            }
            return bits;
        }

        int tell(int i, int what) {
            if (i < 0 || i >= size) {
                return NONE;
            }
            int node = nodeOf[i];
            switch (what) {
                case 0:
                    return variable[node];
                case 1:
                    return sideNumber(low[node]);
                case 2:
                    return sideNumber(high[node]);
                default:
                    return NONE;
            }
        }

        private int sideNumber(int side) {
            return side < 0 ? side : numberOf[side];
        }
    }
}
