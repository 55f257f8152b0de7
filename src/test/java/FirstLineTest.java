import java.util.ArrayList;
import java.util.Arrays;
import java.util.List;
import java.util.Random;
import java.util.function.ToIntFunction;

/**
 * The document's first line, by Craig's theorem itself: nothing here knows how an interpolant is made, only what each has
 * to be. Whether clauses are true is worked out from the test's own lists, not from what the class says of them.
 */
final class FirstLineTest {
    private static final Checks CHECKS = new Checks("FirstLineTest");
    private static final int VALUATIONS = 1024;
    private static final int FALSE = -2;
    private static final int TRUE = -3;
    // An object's answers are promised for 512 calls, and reading a text takes up to 120 of them.
    private static final int ASKED_OF_ONE = 380;
    // The literals of 1 .. 5 in the 32 clauses of widest(), found by trying; no formula has more nodes than its 269.
    private static final int[][] WIDEST = {{4}, {-4}, {1, 2}, {3}, {5}, {1, 5}, {}, {-4}, {-2}, {5}, {-5}, {2, -3},
        {-1, -2}, {1}, {5}, {}, {3}, {-3}, {4}, {-1}, {-3}, {-2}, {3}, {5}, {1, 2}, {1, 5}, {-1}, {-2, 3}, {4}, {4},
        {-2}, {2}};

    private record Given(int block, int[] literals) {
        boolean isTrue(int valuation) {
            for (int literal : literals) {
                boolean set = (valuation >> (Math.abs(literal) - 1) & 1) != 0;
                if (set == literal > 0) {
                    return true;
                }
            }
            return false;
        }

        String text() {
            StringBuilder text = new StringBuilder("c").append(block).append(':');
            for (int literal : literals) {
                text.append(' ').append(literal);
            }
            return text.append(';').toString();
        }
    }

    private final String name;
    private final List<Given> given = new ArrayList<>();
    private final StringBuilder resolutions = new StringBuilder();
    private final int[] labels = new int[11];
    private boolean eliminates;
    private int cut;
    private int system;
    private CraigBench bench;
    private int askedOfOne;

    private FirstLineTest(String name, Random random) {
        this.name = name;
        for (int v = 1; v <= 10; v++) {
            labels[v] = 1 + random.nextInt(3);
        }
    }

    public static void main(String[] args) {
        int refuted = 0;
        for (int seed = 1; seed <= 40; seed++) {
            FirstLineTest some = clausesAtRandom(seed);
            refuted += some.isRefuted() ? 1 : 0;
            some.holdAllCuts();
            FirstLineTest tree = treeAtRandom(seed);
            CHECKS.holds(tree.name + " is refuted", tree.isRefuted());
            tree.holdAllCuts();
        }
        CHECKS.holds("refutations come often: " + refuted, refuted >= 15);
        widestGraph();
        CHECKS.finish();
    }

    private static FirstLineTest clausesAtRandom(int seed) {
        Random random = new Random(seed * 0x9E3779B97F4A7C15L);
        FirstLineTest test = new FirstLineTest("clauses " + seed, random);
        int variables = 3 + random.nextInt(3);
        int clauses = 6 * variables;
        for (int k = 0; k < clauses; k++) {
            int first = 1 + random.nextInt(variables);
            int second = 1 + (first + random.nextInt(variables - 1)) % variables;
            int[] literals = {random.nextBoolean() ? first : -first, random.nextBoolean() ? second : -second};
            test.given.add(new Given(1 + random.nextInt(8), literals));
        }
        test.eliminates = true;
        return test;
    }

    /** All clauses of 1 .. 4, with some of 5 .. 10 that units take away. */
    private static FirstLineTest treeAtRandom(int seed) {
        Random random = new Random(seed * 0x9E3779B97F4A7C15L + 1);
        FirstLineTest test = new FirstLineTest("tree " + seed, random);
        for (int leaf = 0; leaf < 16; leaf++) {
            List<Integer> literals = new ArrayList<>();
            for (int v = 1; v <= 10; v++) {
                if (v <= 4) {
                    literals.add((leaf >> (v - 1) & 1) == 0 ? v : -v);
                } else if (random.nextInt(3) == 0) {
                    literals.add(v);
                }
            }
            test.given.add(new Given(1 + random.nextInt(8), toArray(literals)));
        }
        for (int v = 5; v <= 10; v++) {
            test.given.add(new Given(1 + random.nextInt(8), new int[] {-v}));
        }
        test.eliminates = true;
        return test;
    }

    private static int[] toArray(List<Integer> literals) {
        return literals.stream().mapToInt(literal -> literal).toArray();
    }

    /** All clauses of 6 .. 10 in block 1, with literals of 1 .. 5; in block 2 all units of these, which take them away. */
    private static FirstLineTest widest() {
        FirstLineTest test = new FirstLineTest("widest", new Random(1));
        for (int leaf = 0; leaf < 32; leaf++) {
            List<Integer> literals = new ArrayList<>();
            for (int literal : WIDEST[leaf]) {
                literals.add(literal);
            }
            for (int v = 6; v <= 10; v++) {
                literals.add((leaf >> (v - 6) & 1) == 0 ? v : -v);
            }
            test.given.add(new Given(1, toArray(literals)));
        }
        for (int v = 1; v <= 5; v++) {
            test.given.add(new Given(2, new int[] {v}));
            test.given.add(new Given(2, new int[] {-v}));
        }
        // Not needed: it is there so that these are shared, too.
        test.given.add(new Given(2, new int[] {6, 7, 8, 9, 10}));
        test.resolveWidest();
        return test;
    }

    private void resolveWidest() {
        int[] number = new int[32];
        int last = given.size();
        for (int leaf = 0; leaf < 32; leaf++) {
            number[leaf] = leaf + 1;
            for (int literal : WIDEST[leaf]) {
                int unit = 31 + 2 * Math.abs(literal);
                String pair = literal > 0 ? number[leaf] + " " + (unit + 1) : unit + " " + number[leaf];
                resolutions.append('r').append(pair).append(' ').append(Math.abs(literal)).append(';');
                last++;
                number[leaf] = last;
            }
        }
        for (int v = 6; v <= 10; v++) {
            for (int leaf = 0; leaf < 32 >> (v - 5); leaf++) {
                resolutions.append('r').append(number[2 * leaf]).append(' ').append(number[2 * leaf + 1]).append(' ')
                    .append(v).append(';');
                last++;
                number[leaf] = last;
            }
        }
    }

    private CraigBench newBench() {
        CraigBench made = new CraigBench();
        StringBuilder text = new StringBuilder();
        given.forEach(one -> text.append(one.text()));
        Checks.readText(made, text.append(resolutions).toString());
        for (int v = 1; v <= 10; v++) {
            made.label(v, labels[v]);
            if (eliminates) {
                made.eliminate(11 - v);
            }
        }
        return made;
    }

    private int ask(ToIntFunction<CraigBench> call) {
        if (bench == null || askedOfOne >= ASKED_OF_ONE) {
            bench = newBench();
            bench.interpolate(cut, system);
            askedOfOne = 0;
        }
        askedOfOne++;
        return call.applyAsInt(bench);
    }

    private boolean isRefuted() {
        return newBench().refutation() > 0;
    }

    private boolean allTrue(int fromBlock, int toBlock, int valuation) {
        return given.stream().filter(one -> one.block() >= fromBlock && one.block() <= toBlock)
            .allMatch(one -> one.isTrue(valuation));
    }

    private int occurring(int fromBlock, int toBlock) {
        int bits = 0;
        for (Given one : given) {
            for (int literal : one.literals()) {
                bits |= one.block() >= fromBlock && one.block() <= toBlock ? 1 << (Math.abs(literal) - 1) : 0;
            }
        }
        return bits;
    }

    private void holdAllCuts() {
        if (!isRefuted()) {
            return;
        }
        for (int ofCut = 1; ofCut <= 7; ofCut++) {
            for (int bySystem = 0; bySystem <= 3; bySystem++) {
                cut = ofCut;
                system = bySystem;
                bench = null;
                holdInterpolant();
            }
            holdOrder();
        }
    }

    private void holdInterpolant() {
        String of = name + ", cut " + cut + ", system " + system + ": ";
        int[] value = new int[VALUATIONS];
        for (int k = 0; k < VALUATIONS; k++) {
            int valuation = k;
            value[k] = ask(bench -> bench.value(valuation));
        }
        int unshared = ~(occurring(1, cut) & occurring(cut + 1, 8)) & (VALUATIONS - 1);
        int notFollowing = 0;
        int soWithBehind = 0;
        int ofOthers = 0;
        for (int k = 0; k < VALUATIONS; k++) {
            notFollowing += allTrue(1, cut, k) && value[k] != 1 ? 1 : 0;
            soWithBehind += allTrue(cut + 1, 8, k) && value[k] != 0 ? 1 : 0;
            ofOthers += value[k] != value[k & ~unshared] ? 1 : 0;
        }
        CHECKS.due(of + "valuations of what is ahead from which it doesn't follow", notFollowing, 0);
        CHECKS.due(of + "valuations of what is behind with which it can be so", soWithBehind, 0);
        CHECKS.due(of + "valuations where it speaks of what isn't shared", ofOthers, 0);
        CHECKS.due(of + "told(1) of what isn't shared", ask(bench -> bench.told(1)) & unshared, 0);
        holdGraph(of, value);
    }

    private void holdGraph(String of, int[] value) {
        int size = ask(bench -> bench.interpolate(cut, system));
        CHECKS.holds(of + "nodes: " + size, size >= 0);
        if (size < 0) {
            return;
        }
        int[][] nodes = new int[size][3];
        for (int i = 0; i < size; i++) {
            for (int what = 0; what <= 2; what++) {
                int node = i;
                int side = what;
                nodes[i][what] = ask(bench -> bench.graph(node, side));
            }
        }
        int otherwise = 0;
        for (int k = 0; k < VALUATIONS; k++) {
            // Without a node there is nothing to go down: it is the same for all.
            int end = size == 0 ? value[0] : walk(nodes, k);
            otherwise += end != value[k] ? 1 : 0;
        }
        CHECKS.due(of + "valuations for which the graph tells otherwise", otherwise, 0);
        int wasted = 0;
        for (int i = 0; i < size; i++) {
            wasted += nodes[i][1] == nodes[i][2] ? 1 : 0;
            for (int j = 0; j < i; j++) {
                wasted += Arrays.equals(nodes[i], nodes[j]) ? 1 : 0;
            }
        }
        CHECKS.due(of + "nodes with one side, or that are there twice", wasted, 0);
    }

    /** The value at a path's end; -1 when variables don't rise on it. */
    private static int walk(int[][] nodes, int valuation) {
        int node = 0;
        int before = 0;
        while (node >= 0) {
            int v = nodes[node][0];
            if (v <= before || v > 10) {
                return -1;
            }
            before = v;
            node = nodes[node][(valuation >> (v - 1) & 1) == 0 ? 1 : 2];
            if (node >= nodes.length) {
                return -1;
            }
        }
        return node == TRUE ? 1 : node == FALSE ? 0 : -1;
    }

    /** With the labels b, ab, a the formulas grow weaker; those of one's own lie between. */
    private void holdOrder() {
        CraigBench asked = newBench();
        int[][] pairs = {{0, 0}, {0, 1}, {1, 2}, {0, 2}, {0, 3}, {3, 2}, {3, 3}};
        for (int[] pair : pairs) {
            CHECKS.due(name + ": follows(" + cut + ", " + pair[0] + ", " + pair[1] + ")",
                asked.follows(cut, pair[0], pair[1]), 1);
        }
    }

    private static void widestGraph() {
        FirstLineTest test = widest();
        CraigBench asked = test.newBench();
        CHECKS.due("refutation() of widest", asked.refutation(), 111);
        CHECKS.due("count(3) of widest", asked.count(3), 110);
        CHECKS.due("interpolate(1, 0) of widest", asked.interpolate(1, 0), 269);
        CHECKS.due("graph(268, 0) of widest", asked.graph(268, 0) > 0 ? 1 : 0, 1);
        CHECKS.due("graph(269, 0) of widest", asked.graph(269, 0), CraigBench.NONE);
        test.holdAllCuts();
    }
}
