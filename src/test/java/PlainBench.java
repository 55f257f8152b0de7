import java.util.ArrayList;
import java.util.Arrays;
import java.util.HashMap;
import java.util.List;
import java.util.Map;
import java.util.TreeSet;

/**
 * The document once more, as slowly and plainly as it can be said: sets of signed numbers, formulas asked valuation by
 * valuation, a graph by comparing texts. OracleTest holds the class against it.
 */
final class PlainBench {
    private static final int NONE = -1;
    private static final int RANGE = -2;
    private static final int FULL = -3;

    /** A clause; block 0 is a resolvent's. */
    private record Clause(int block, int left, int right, int pivot, TreeSet<Integer> literals) {
    }

    private static final class Fault extends RuntimeException {
        private static final long serialVersionUID = 1L;
        private final int kind;
        private final int place;

        Fault(int kind, int place) {
            this.kind = kind;
            this.place = place;
        }
    }

    private record Token(String text, int place) {
        boolean isNumber() {
            return text.matches("[0-9]{1,3}");
        }
    }

    private String tape = "";
    private List<Clause> clauses = new ArrayList<>();
    private final List<Boolean> live = new ArrayList<>();
    private final int[] labels = new int[11];
    private int faultKind = 0;
    private int faultPlace = NONE;
    private Map<Integer, boolean[]> told = null;
    private int toldRoot;
    private final List<int[]> nodes = new ArrayList<>();
    private final Map<String, Integer> nodeNumbers = new HashMap<>();

    PlainBench() {
        Arrays.fill(labels, 2);
    }

    int feed(int a, int b, int c, int d, int e) {
        if (tape.length() + 20 > 2000) {
            return FULL;
        }
        for (int word : new int[] {a, b, c, d, e}) {
            tape += "" + (char) (word >>> 24) + (char) (word >>> 16 & 255) + (char) (word >>> 8 & 255)
                + (char) (word & 255);
        }
        return tape.length();
    }

    int end(int n) {
        if (n < 0 || n > tape.length()) {
            return NONE;
        }
        tape = tape.substring(0, n);
        return n;
    }

    int read() {
        String text = tape;
        tape = "";
        List<Clause> before = new ArrayList<>(clauses);
        faultKind = 0;
        faultPlace = NONE;
        try {
            parse(tokens(text));
        } catch (Fault fault) {
            faultKind = fault.kind;
            faultPlace = fault.place;
            clauses = before;
            return NONE;
        }
        int came = clauses.size() - before.size();
        for (int k = 0; k < came; k++) {
            live.add(true);
        }
        return came;
    }

    private static List<Token> tokens(String text) {
        List<Token> tokens = new ArrayList<>();
        int at = 0;
        while (at < text.length()) {
            int from = at;
            while (at < text.length() && "0123456789".indexOf(text.charAt(at)) >= 0) {
                at++;
            }
            if (at > from) {
                tokens.add(new Token(text.substring(from, at), from));
            } else {
                if (text.charAt(at) != ' ' && text.charAt(at) != '\n') {
                    tokens.add(new Token(text.substring(at, at + 1), at));
                }
                at++;
            }
        }
        tokens.add(new Token("", text.length()));
        return tokens;
    }

    private void parse(List<Token> tokens) {
        int at = 0;
        while (!tokens.get(at).text().isEmpty()) {
            Token head = tokens.get(at);
            switch (head.text()) {
                case "c" -> at = parseGiven(tokens, at);
                case "r" -> at = parseResolvent(tokens, at);
                default -> throw new Fault(1, head.place());
            }
        }
    }

    private static int number(Token token) {
        if (!token.isNumber()) {
            throw new Fault(1, token.place());
        }
        return Integer.parseInt(token.text());
    }

    private static int number(Token token, int most) {
        int number = number(token);
        if (number < 1 || number > most) {
            throw new Fault(2, token.place());
        }
        return number;
    }

    private static void sign(Token token, String sign) {
        if (!token.text().equals(sign)) {
            throw new Fault(1, token.place());
        }
    }

    private int parseGiven(List<Token> tokens, int from) {
        if (count(1) >= 60 || clauses.size() >= 200) {
            throw new Fault(6, tokens.get(from).place());
        }
        int block = number(tokens.get(from + 1), 8);
        sign(tokens.get(from + 2), ":");
        TreeSet<Integer> literals = new TreeSet<>();
        int at = from + 3;
        while (!tokens.get(at).text().equals(";")) {
            boolean minus = tokens.get(at).text().equals("-");
            at += minus ? 1 : 0;
            int v = number(tokens.get(at), 10);
            if (literals.contains(v) || literals.contains(-v)) {
                throw new Fault(3, tokens.get(at).place());
            }
            literals.add(minus ? -v : v);
            at++;
        }
        clauses.add(new Clause(block, 0, 0, 0, literals));
        return at + 1;
    }

    private int parseResolvent(List<Token> tokens, int from) {
        if (clauses.size() >= 200) {
            throw new Fault(6, tokens.get(from).place());
        }
        int i = number(tokens.get(from + 1), clauses.size());
        int j = number(tokens.get(from + 2), clauses.size());
        int v = number(tokens.get(from + 3), 10);
        int place = tokens.get(from + 3).place();
        if (!literals(i).contains(v) || !literals(j).contains(-v)) {
            throw new Fault(4, place);
        }
        TreeSet<Integer> rest = resolvent(i, j, v);
        if (rest == null) {
            throw new Fault(5, place);
        }
        sign(tokens.get(from + 4), ";");
        clauses.add(new Clause(0, i, j, v, rest));
        return from + 5;
    }

    private TreeSet<Integer> literals(int i) {
        return clauses.get(i - 1).literals();
    }

    /** Null when it would have a literal and its opposite. */
    private TreeSet<Integer> resolvent(int i, int j, int v) {
        TreeSet<Integer> rest = new TreeSet<>(literals(i));
        rest.remove(v);
        TreeSet<Integer> others = new TreeSet<>(literals(j));
        others.remove(-v);
        rest.addAll(others);
        for (int literal : rest) {
            if (rest.contains(-literal)) {
                return null;
            }
        }
        return rest;
    }

    int fault(int what) {
        return what == 0 ? faultKind : what == 1 ? faultPlace : NONE;
    }

    int clear() {
        int had = clauses.size();
        clauses.clear();
        live.clear();
        Arrays.fill(labels, 2);
        return had;
    }

    int clause(int i, int what) {
        if (i < 1 || i > clauses.size()) {
            return NONE;
        }
        Clause clause = clauses.get(i - 1);
        int all = 0;
        int negated = 0;
        for (int literal : clause.literals()) {
            all += 1 << (Math.abs(literal) - 1);
            negated += literal < 0 ? 1 << (-literal - 1) : 0;
        }
        return switch (what) {
            case 0 -> clause.block();
            case 1 -> clause.left();
            case 2 -> clause.right();
            case 3 -> clause.pivot();
            case 4 -> all;
            case 5 -> negated;
            case 6 -> needed().contains(i) ? 1 : 0;
            default -> NONE;
        };
    }

    int refutation() {
        for (int i = 1; i <= clauses.size(); i++) {
            if (literals(i).isEmpty()) {
                return i;
            }
        }
        return NONE;
    }

    private TreeSet<Integer> needed() {
        TreeSet<Integer> needed = new TreeSet<>();
        if (refutation() != NONE) {
            need(refutation(), needed);
        }
        return needed;
    }

    private void need(int i, TreeSet<Integer> needed) {
        if (needed.add(i) && clauses.get(i - 1).block() == 0) {
            need(clauses.get(i - 1).left(), needed);
            need(clauses.get(i - 1).right(), needed);
        }
    }

    int eliminate(int v) {
        if (v < 1 || v > 10) {
            return RANGE;
        }
        int before = clauses.size();
        List<Clause> all = new ArrayList<>(clauses);
        for (int i = 1; i <= before; i++) {
            for (int j = 1; j <= before; j++) {
                if (live.get(i - 1) && live.get(j - 1) && literals(i).contains(v) && literals(j).contains(-v)) {
                    TreeSet<Integer> rest = resolvent(i, j, v);
                    if (rest != null && all.stream().noneMatch(clause -> clause.literals().equals(rest))) {
                        all.add(new Clause(0, i, j, v, rest));
                    }
                }
            }
        }
        if (all.size() > 200) {
            return FULL;
        }
        for (int i = 1; i <= before; i++) {
            if (literals(i).contains(v) || literals(i).contains(-v)) {
                live.set(i - 1, false);
            }
        }
        clauses = all;
        while (live.size() < all.size()) {
            live.add(true);
        }
        return all.size() - before;
    }

    int label(int v, int l) {
        if (v < 1 || v > 10 || l < 1 || l > 3) {
            return RANGE;
        }
        int was = labels[v];
        labels[v] = l;
        return was;
    }

    private boolean occurs(int v, int from, int to) {
        return clauses.stream().anyMatch(clause -> clause.block() >= from && clause.block() <= to
            && (clause.literals().contains(v) || clause.literals().contains(-v)));
    }

    int variables(int cut, int what) {
        if (cut < 1 || cut > 7) {
            return RANGE;
        }
        if (what < 0 || what > 2) {
            return NONE;
        }
        int bits = 0;
        for (int v = 1; v <= 10; v++) {
            boolean ahead = occurs(v, 1, cut);
            boolean behind = occurs(v, cut + 1, 8);
            boolean told = what == 0 ? ahead : what == 1 ? behind : ahead && behind;
            bits += told ? 1 << (v - 1) : 0;
        }
        return bits;
    }

    private int labelOf(int v, int cut, int system) {
        if (!occurs(v, cut + 1, 8)) {
            return 1;
        }
        if (!occurs(v, 1, cut)) {
            return 2;
        }
        return system == 0 ? 2 : system == 1 ? 3 : system == 2 ? 1 : labels[v];
    }

    private static boolean isTrue(int literal, int valuation) {
        boolean set = (valuation >> (Math.abs(literal) - 1) & 1) != 0;
        return set == literal > 0;
    }

    private Map<Integer, boolean[]> partials(int cut, int system) {
        int[] label = new int[11];
        for (int v = 1; v <= 10; v++) {
            label[v] = labelOf(v, cut, system);
        }
        Map<Integer, boolean[]> formulas = new HashMap<>();
        for (int i : needed()) {
            boolean[] table = new boolean[1024];
            for (int valuation = 0; valuation < 1024; valuation++) {
                table[valuation] = partialAt(clauses.get(i - 1), cut, label, formulas, valuation);
            }
            formulas.put(i, table);
        }
        return formulas;
    }

    private static boolean partialAt(Clause clause, int cut, int[] label, Map<Integer, boolean[]> formulas,
        int valuation) {
        if (clause.block() == 0) {
            boolean p = formulas.get(clause.left())[valuation];
            boolean q = formulas.get(clause.right())[valuation];
            boolean v = isTrue(clause.pivot(), valuation);
            return switch (label[clause.pivot()]) {
                case 1 -> p || q;
                case 2 -> p && q;
                default -> (v || p) && (!v || q);
            };
        }
        int wanted = clause.block() <= cut ? 2 : 1;
        boolean any = false;
        for (int literal : clause.literals()) {
            any |= label[Math.abs(literal)] == wanted && isTrue(literal, valuation);
        }
        return clause.block() <= cut ? any : !any;
    }

    private static boolean badCut(int cut) {
        return cut < 1 || cut > 7;
    }

    private static boolean badSystem(int system) {
        return system < 0 || system > 3;
    }

    int interpolate(int cut, int system) {
        if (badCut(cut) || badSystem(system)) {
            return RANGE;
        }
        if (refutation() == NONE) {
            return NONE;
        }
        told = partials(cut, system);
        toldRoot = refutation();
        nodes.clear();
        nodeNumbers.clear();
        StringBuilder table = new StringBuilder();
        // Read from the first variable on, so that a half is what the formula is with that one false or true.
        for (int k = 0; k < 1024; k++) {
            table.append(told.get(toldRoot)[Integer.reverse(k) >>> 22] ? '1' : '0');
        }
        side(1, table.toString());
        return nodes.size();
    }

    private int side(int v, String table) {
        if (table.indexOf('0') < 0) {
            return -3;
        }
        if (table.indexOf('1') < 0) {
            return -2;
        }
        String low = table.substring(0, table.length() / 2);
        String high = table.substring(table.length() / 2);
        if (low.equals(high)) {
            return side(v + 1, low);
        }
        Integer known = nodeNumbers.get(table);
        if (known != null) {
            return known;
        }
        int number = nodes.size();
        int[] node = {v, 0, 0};
        nodes.add(node);
        nodeNumbers.put(table, number);
        node[1] = side(v + 1, low);
        node[2] = side(v + 1, high);
        return number;
    }

    int value(int valuation) {
        return told == null ? NONE : partial(toldRoot, valuation);
    }

    int partial(int i, int valuation) {
        if (told == null || valuation < 0 || valuation > 1023 || !told.containsKey(i)) {
            return NONE;
        }
        return told.get(i)[valuation] ? 1 : 0;
    }

    int told(int what) {
        if (told == null || what < 0 || what > 1) {
            return NONE;
        }
        boolean[] table = told.get(toldRoot);
        int trues = 0;
        int hangs = 0;
        for (int valuation = 0; valuation < 1024; valuation++) {
            trues += table[valuation] ? 1 : 0;
            for (int bit = 1; bit < 1024; bit <<= 1) {
                hangs |= table[valuation] != table[valuation ^ bit] ? bit : 0;
            }
        }
        return what == 0 ? trues : hangs;
    }

    int graph(int i, int what) {
        if (told == null || i < 0 || i >= nodes.size() || what < 0 || what > 2) {
            return NONE;
        }
        return nodes.get(i)[what];
    }

    int follows(int cut, int other, int system) {
        if (badCut(cut) || badSystem(other) || badSystem(system)) {
            return RANGE;
        }
        if (refutation() == NONE) {
            return NONE;
        }
        boolean[] first = partials(cut, other).get(refutation());
        boolean[] second = partials(cut, system).get(refutation());
        for (int valuation = 0; valuation < 1024; valuation++) {
            if (first[valuation] && !second[valuation]) {
                return 0;
            }
        }
        return 1;
    }

    private boolean allTrue(int from, int to, int valuation) {
        return clauses.stream().filter(clause -> clause.block() >= from && clause.block() <= to)
            .allMatch(clause -> clause.literals().stream().anyMatch(literal -> isTrue(literal, valuation)));
    }

    int gap(int cut, int system, int what) {
        if (badCut(cut) || badSystem(system)) {
            return RANGE;
        }
        if (refutation() == NONE || what < 0 || what > 2) {
            return NONE;
        }
        boolean[] here = partials(cut, system).get(refutation());
        boolean[] next = cut == 7 ? new boolean[1024] : partials(cut + 1, system).get(refutation());
        int gaps = 0;
        for (int valuation = 0; valuation < 1024; valuation++) {
            boolean gap = switch (what) {
                case 0 -> allTrue(1, cut, valuation) && !here[valuation];
                case 1 -> allTrue(cut + 1, 8, valuation) && here[valuation];
                default -> here[valuation] && allTrue(cut + 1, cut + 1, valuation) && !next[valuation];
            };
            gaps += gap ? 1 : 0;
        }
        return gaps;
    }

    int count(int what) {
        return switch (what) {
            case 0 -> clauses.size();
            case 1 -> (int) clauses.stream().filter(clause -> clause.block() != 0).count();
            case 2 -> (int) live.stream().filter(one -> one).count();
            case 3 -> needed().size();
            case 4 -> tape.length();
            default -> NONE;
        };
    }
}
