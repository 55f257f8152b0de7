import java.util.Random;

/** All promises at once: long runs of calls, made from fixed seeds, on the class and on PlainBench. */
final class OracleTest {
    private static final Checks CHECKS = new Checks("OracleTest");
    private static final int RUNS = 400;
    private static final int MOST_CALLS = 512;
    private static final int[] ODD = {Integer.MIN_VALUE, Integer.MAX_VALUE, -1, -2, -3, 0, 200, 201, 1023, 1024, 2000};

    private final Random random;
    private final String name;
    private final CraigBench bench = new CraigBench();
    private final PlainBench plain = new PlainBench();
    private int calls;
    private int refutedTimes;
    private int widest;
    private int fulls;
    // Few variables make refutations and doubles likely, many make wide graphs and full rows.
    private final int variables;
    private final int blocks;
    // Long texts, for rows that run out of room.
    private final boolean crowded;

    private OracleTest(int seed) {
        // Seeds that lie close together begin alike.
        random = new Random(seed * 0x9E3779B97F4A7C15L);
        name = "run " + seed + ": ";
        crowded = random.nextInt(4) == 0;
        variables = crowded ? 10 : 2 + random.nextInt(9);
        blocks = 2 + random.nextInt(7);
    }

    public static void main(String[] args) {
        int refuted = 0;
        int widest = 0;
        int fulls = 0;
        for (int seed = 1; seed <= RUNS; seed++) {
            OracleTest run = new OracleTest(seed);
            run.go();
            refuted += run.refutedTimes;
            widest = Math.max(widest, run.widest);
            fulls += run.fulls;
        }
        // Runs that never come to an interpolant would test nothing of it.
        System.out.println(refuted + " interpolants, the widest of " + widest + " nodes; " + fulls + " times FULL");
        CHECKS.holds("interpolants come often: " + refuted, refuted >= RUNS);
        CHECKS.holds("graphs are wide: " + widest, widest >= 100);
        CHECKS.holds("eliminations are refused for room: " + fulls, fulls >= 5);
        CHECKS.finish();
    }

    private void due(String call, int got, int want) {
        calls++;
        CHECKS.due(name + call, got, want);
    }

    private void go() {
        while (calls < MOST_CALLS - 190) {
            step();
        }
    }

    private void step() {
        switch (random.nextInt(crowded ? 12 : 13)) {
            case 0 -> readTape(spoiled(text()));
            case 1, 2, 3 -> readTape(text());
            case 4, 5 -> eliminateSome();
            case 6, 7, 8 -> askInterpolant();
            case 9 -> askClauses();
            case 10 -> askOddly();
            case 11 -> turn();
            default -> refuteTree();
        }
    }

    private int between(int least, int most) {
        return least + random.nextInt(most - least + 1);
    }

    private int maybeOdd(int least, int most) {
        return random.nextInt(25) == 0 ? ODD[random.nextInt(ODD.length)] : between(least, most);
    }

    private void readTape(String text) {
        int from = plain.count(4);
        for (int at = 0; at < text.length(); at += 20) {
            int[] w = new int[5];
            for (int k = 0; k < 5; k++) {
                w[k] = Checks.four(text, at + 4 * k);
            }
            due("feed", bench.feed(w[0], w[1], w[2], w[3], w[4]), plain.feed(w[0], w[1], w[2], w[3], w[4]));
        }
        due("end", bench.end(from + text.length()), plain.end(from + text.length()));
        due("read() of '" + text + "'", bench.read(), plain.read());
        due("fault(0)", bench.fault(0), plain.fault(0));
        due("fault(1)", bench.fault(1), plain.fault(1));
        due("refutation()", bench.refutation(), plain.refutation());
    }

    private String text() {
        StringBuilder text = new StringBuilder();
        int statements = crowded ? between(25, 50) : between(0, 14);
        for (int k = 0; k < statements; k++) {
            if (random.nextInt(6) == 0 && plain.count(0) > 1) {
                text.append(resolution());
            } else {
                text.append(given());
            }
            text.append(random.nextInt(4) == 0 ? "\n" : "");
        }
        return text.toString();
    }

    private String given() {
        StringBuilder text = new StringBuilder("c").append(between(1, blocks)).append(':');
        int width = crowded ? between(2, 4) : random.nextInt(40) == 0 ? 0 : between(1, 3);
        int used = 0;
        for (int k = 0; k < width; k++) {
            int v = between(1, variables);
            if ((used >> v & 1) == 0) {
                used |= 1 << v;
                text.append(random.nextBoolean() ? "-" : " ").append(v);
            }
        }
        return text.append(';').toString();
    }

    private String resolution() {
        for (int tries = 0; tries < 200; tries++) {
            int i = between(1, plain.count(0));
            int j = between(1, plain.count(0));
            int v = between(1, variables);
            int bit = 1 << (v - 1);
            int positive = plain.clause(i, 4) & ~plain.clause(i, 5);
            if ((positive & bit) != 0 && (plain.clause(j, 5) & bit) != 0) {
                return "r" + i + " " + j + " " + v + ";";
            }
        }
        return "";
    }

    private String spoiled(String text) {
        if (text.isEmpty()) {
            return "c1:1";
        }
        int at = random.nextInt(text.length());
        String signs = "cr:;- \n0123456789x\t" + (char) 200;
        String sign = "" + signs.charAt(random.nextInt(signs.length()));
        return switch (random.nextInt(3)) {
            case 0 -> text.substring(0, at);
            case 1 -> text.substring(0, at) + sign + text.substring(at);
            default -> text.substring(0, at) + sign + text.substring(at + 1);
        };
    }

    private void eliminateSome() {
        int times = between(1, variables);
        int first = between(1, variables);
        for (int k = 0; k < times; k++) {
            int v = (first + k) % variables + 1;
            int want = plain.eliminate(v);
            fulls += want == CraigBench.FULL ? 1 : 0;
            due("eliminate(" + v + ")", bench.eliminate(v), want);
        }
        for (int what = 0; what <= 4; what++) {
            due("count(" + what + ")", bench.count(what), plain.count(what));
        }
        due("refutation()", bench.refutation(), plain.refutation());
    }

    /** All clauses of a few variables, with others that units take away again: the way to wide graphs. */
    private void refuteTree() {
        // The others are in front of half of the graphs, where they make them wider still.
        boolean turned = random.nextBoolean();
        // Units that are all behind leave the whole formula to the interpolant.
        boolean apart = random.nextBoolean();
        due("clear()", bench.clear(), plain.clear());
        due("end(0)", bench.end(0), plain.end(0));
        readTape(tree(turned, apart ? 1 : blocks, apart ? 8 : 1));
        for (int v = 10; v >= 1; v--) {
            int turn = turned ? 11 - v : v;
            due("eliminate(" + turn + ")", bench.eliminate(turn), plain.eliminate(turn));
        }
        askInterpolant();
        askInterpolant();
    }

    private String tree(boolean turned, int lastOfLeaves, int firstOfUnits) {
        int depth = between(1, 5);
        int often = between(1, 4);
        StringBuilder text = new StringBuilder();
        for (int leaf = 0; leaf < 1 << depth; leaf++) {
            text.append('c').append(between(1, lastOfLeaves)).append(':');
            for (int v = 1; v <= depth; v++) {
                text.append((leaf >> (v - 1) & 1) == 0 ? " " : "-").append(turned ? 11 - v : v);
            }
            for (int v = 6; v <= 10; v++) {
                text.append(random.nextInt(5) < often ? " " + (turned ? 11 - v : v) : "");
            }
            text.append(';');
        }
        for (int v = 6; v <= 10; v++) {
            int block = between(firstOfUnits, Math.max(firstOfUnits, blocks));
            text.append('c').append(block).append(":-").append(turned ? 11 - v : v).append(';');
        }
        return text.toString();
    }

    private void askInterpolant() {
        int cut = maybeOdd(1, Math.min(7, blocks));
        int system = maybeOdd(0, 3);
        if (random.nextInt(3) == 0) {
            int v = maybeOdd(1, 10);
            int l = maybeOdd(1, 3);
            due("label(" + v + ", " + l + ")", bench.label(v, l), plain.label(v, l));
        }
        int size = plain.interpolate(cut, system);
        due("interpolate(" + cut + ", " + system + ")", bench.interpolate(cut, system), size);
        refutedTimes += size >= 0 ? 1 : 0;
        widest = Math.max(widest, size);
        due("told(0)", bench.told(0), plain.told(0));
        due("told(1)", bench.told(1), plain.told(1));
        askValues();
        askNodes(size);
        int other = maybeOdd(0, 3);
        due("follows(" + cut + ", " + other + ", " + system + ")", bench.follows(cut, other, system),
            plain.follows(cut, other, system));
        int what = maybeOdd(0, 2);
        due("gap(" + cut + ", " + system + ", " + what + ")", bench.gap(cut, system, what),
            plain.gap(cut, system, what));
        due("told(0) again", bench.told(0), plain.told(0));
    }

    private void askValues() {
        for (int k = 0; k < 8; k++) {
            int valuation = maybeOdd(0, 1023);
            due("value(" + valuation + ")", bench.value(valuation), plain.value(valuation));
            int i = maybeOdd(1, Math.max(1, plain.count(0)));
            due("partial(" + i + ", " + valuation + ")", bench.partial(i, valuation), plain.partial(i, valuation));
        }
    }

    private void askNodes(int size) {
        for (int k = 0; k < 10 && k <= size; k++) {
            int i = size <= 10 ? k : between(0, size);
            for (int what = 0; what <= 2; what++) {
                due("graph(" + i + ", " + what + ")", bench.graph(i, what), plain.graph(i, what));
            }
        }
    }

    private void askClauses() {
        for (int k = 0; k < 4; k++) {
            int i = maybeOdd(1, plain.count(0) + 1);
            for (int what = 0; what <= 6; what++) {
                due("clause(" + i + ", " + what + ")", bench.clause(i, what), plain.clause(i, what));
            }
        }
        int cut = maybeOdd(1, 7);
        for (int what = 0; what <= 2; what++) {
            due("variables(" + cut + ", " + what + ")", bench.variables(cut, what), plain.variables(cut, what));
        }
    }

    private void askOddly() {
        int a = maybeOdd(-4, 12);
        int b = maybeOdd(-4, 12);
        int c = maybeOdd(-4, 12);
        due("end", bench.end(a), plain.end(a));
        due("fault", bench.fault(b), plain.fault(b));
        due("clause", bench.clause(a, b), plain.clause(a, b));
        due("eliminate", bench.eliminate(c), plain.eliminate(c));
        due("label", bench.label(a, b), plain.label(a, b));
        due("variables", bench.variables(a, b), plain.variables(a, b));
        due("interpolate", bench.interpolate(a, b), plain.interpolate(a, b));
        due("value", bench.value(a), plain.value(a));
        due("partial", bench.partial(a, b), plain.partial(a, b));
        due("told", bench.told(a), plain.told(a));
        due("graph", bench.graph(a, b), plain.graph(a, b));
        due("follows", bench.follows(a, b, c), plain.follows(a, b, c));
        due("gap", bench.gap(a, b, c), plain.gap(a, b, c));
        due("count", bench.count(a), plain.count(a));
    }

    private void turn() {
        if (random.nextInt(3) == 0) {
            due("clear()", bench.clear(), plain.clear());
        } else {
            due("feed", bench.feed(0x20202020, 0x20202020, 0x20202020, 0x20202020, 0x20202020),
                plain.feed(0x20202020, 0x20202020, 0x20202020, 0x20202020, 0x20202020));
        }
    }
}
