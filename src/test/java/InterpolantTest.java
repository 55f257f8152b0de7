/** Promises 12 to 18: interpolate, value, partial, told, graph, follows, gap; worked out by hand. */
final class InterpolantTest {
    private static final Checks CHECKS = new Checks("InterpolantTest");
    private static final int FALSE_SIDE = -2;
    private static final int TRUE_SIDE = -3;

    // Of cut 1: 1 is AHEAD alone, 4 BEHIND alone, 2 and 3 are SHARED.
    private static final String PROOF = "c1:1 -2;c1:-1 -3;c1:2;c2:-2 3;c2:2 4;c2:-4;"
        + "r1 2 1;r3 7 2;r5 4 2;r9 6 4;r10 8 3;";

    public static void main(String[] args) {
        mcMillan();
        pudlak();
        inverse();
        ownLabels();
        refusals();
        whatWasToldStays();
        constants();
        sharedNode();
        widestGraph();
        lastClause();
        follows();
        followsInTheFirstValuations();
        gap();
        CHECKS.finish();
    }

    private static int bit(int valuation, int v) {
        return valuation >> (v - 1) & 1;
    }

    private static void mcMillan() {
        CraigBench bench = Checks.benchWith(PROOF);
        CHECKS.due("refutation()", bench.refutation(), 11);
        CHECKS.due("interpolate(1, 0)", bench.interpolate(1, 0), 2);
        CHECKS.due("told(0)", bench.told(0), 256);
        CHECKS.due("told(1)", bench.told(1), 0b110);
        CHECKS.nodeDue(bench, 0, 2, FALSE_SIDE, 1);
        CHECKS.nodeDue(bench, 1, 3, TRUE_SIDE, FALSE_SIDE);
        CHECKS.due("graph(2, 0)", bench.graph(2, 0), CraigBench.NONE);
        for (int valuation = 0; valuation < 16; valuation++) {
            int two = bit(valuation, 2);
            int three = bit(valuation, 3);
            CHECKS.due("value(" + valuation + ")", bench.value(valuation), two & ~three);
            CHECKS.due("partial(1)", bench.partial(1, valuation), 1 - two);
            CHECKS.due("partial(2)", bench.partial(2, valuation), 1 - three);
            CHECKS.due("partial(3)", bench.partial(3, valuation), two);
            CHECKS.due("partial(4)", bench.partial(4, valuation), 1);
            CHECKS.due("partial(7)", bench.partial(7, valuation), 1 - (two & three));
            CHECKS.due("partial(8)", bench.partial(8, valuation), two & (1 - three));
            CHECKS.due("partial(10)", bench.partial(10, valuation), 1);
            CHECKS.due("partial(11)", bench.partial(11, valuation), two & ~three);
        }
    }

    private static void pudlak() {
        CraigBench bench = Checks.benchWith(PROOF);
        CHECKS.due("interpolate(1, 1)", bench.interpolate(1, 1), 1);
        CHECKS.due("told(0)", bench.told(0), 512);
        CHECKS.due("told(1)", bench.told(1), 0b100);
        CHECKS.nodeDue(bench, 0, 3, TRUE_SIDE, FALSE_SIDE);
        for (int valuation = 0; valuation < 16; valuation++) {
            CHECKS.due("value(" + valuation + ")", bench.value(valuation), 1 - bit(valuation, 3));
            CHECKS.due("partial(3)", bench.partial(3, valuation), 0);
            CHECKS.due("partial(5)", bench.partial(5, valuation), 1);
            CHECKS.due("partial(8)", bench.partial(8, valuation), 0);
            CHECKS.due("partial(9)", bench.partial(9, valuation), 1);
        }
        // The other way round: cut by the side that has the LITERAL itself.
        CraigBench other = Checks.benchWith("c1:5;c2:-5;r1 2 5;");
        CHECKS.due("interpolate(1, 1)", other.interpolate(1, 1), 1);
        CHECKS.nodeDue(other, 0, 5, FALSE_SIDE, TRUE_SIDE);
    }

    private static void inverse() {
        CraigBench bench = Checks.benchWith(PROOF);
        CHECKS.due("interpolate(1, 2)", bench.interpolate(1, 2), 2);
        CHECKS.due("told(0)", bench.told(0), 768);
        CHECKS.due("told(1)", bench.told(1), 0b110);
        CHECKS.nodeDue(bench, 0, 2, TRUE_SIDE, 1);
        CHECKS.nodeDue(bench, 1, 3, TRUE_SIDE, FALSE_SIDE);
        for (int valuation = 0; valuation < 16; valuation++) {
            int two = bit(valuation, 2);
            int three = bit(valuation, 3);
            CHECKS.due("value(" + valuation + ")", bench.value(valuation), 1 - (two & three));
            CHECKS.due("partial(1)", bench.partial(1, valuation), 0);
            CHECKS.due("partial(4)", bench.partial(4, valuation), two & (1 - three));
            CHECKS.due("partial(5)", bench.partial(5, valuation), 1 - two);
            CHECKS.due("partial(6)", bench.partial(6, valuation), 1);
        }
    }

    private static void ownLabels() {
        CraigBench bench = Checks.benchWith(PROOF);
        CHECKS.due("interpolate(1, 3) at first", bench.interpolate(1, 3), 2);
        CHECKS.due("told(0) at first", bench.told(0), 256);
        bench.label(2, 3);
        bench.label(3, 1);
        CHECKS.due("told(0) stays", bench.told(0), 256);
        CHECKS.due("interpolate(1, 3)", bench.interpolate(1, 3), 2);
        CHECKS.due("told(0)", bench.told(0), 768);
        for (int valuation = 0; valuation < 16; valuation++) {
            CHECKS.due("partial(4)", bench.partial(4, valuation), 1 - bit(valuation, 3));
            CHECKS.due("partial(5)", bench.partial(5, valuation), 1);
            CHECKS.due("partial(9)", bench.partial(9, valuation), 1 - (bit(valuation, 2) & bit(valuation, 3)));
        }
        // 1 and 4 are not SHARED: their LABELS can't be changed.
        bench.label(1, 2);
        bench.label(4, 1);
        bench.label(2, 3);
        bench.label(3, 3);
        CHECKS.due("interpolate(1, 3) as Pudlak", bench.interpolate(1, 3), 1);
        CHECKS.nodeDue(bench, 0, 3, TRUE_SIDE, FALSE_SIDE);
        bench.label(2, 1);
        bench.label(3, 1);
        CHECKS.due("interpolate(1, 3) as inverse", bench.interpolate(1, 3), 2);
        CHECKS.due("told(0) as inverse", bench.told(0), 768);
    }

    private static void refusals() {
        CraigBench bench = Checks.benchWith(PROOF);
        bench.interpolate(1, 1);
        for (int bad : new int[] {-1, 0, 8, Integer.MIN_VALUE, Integer.MAX_VALUE}) {
            CHECKS.due("interpolate(" + bad + ", 0)", bench.interpolate(bad, 0), CraigBench.RANGE);
            CHECKS.due("follows(" + bad + ", 0, 0)", bench.follows(bad, 0, 0), CraigBench.RANGE);
            CHECKS.due("gap(" + bad + ", 0, 0)", bench.gap(bad, 0, 0), CraigBench.RANGE);
            CHECKS.due("gap(" + bad + ", 0, 9)", bench.gap(bad, 0, 9), CraigBench.RANGE);
        }
        for (int bad : new int[] {-1, 4, Integer.MIN_VALUE, Integer.MAX_VALUE}) {
            CHECKS.due("interpolate(1, " + bad + ")", bench.interpolate(1, bad), CraigBench.RANGE);
            CHECKS.due("follows(1, " + bad + ", 0)", bench.follows(1, bad, 0), CraigBench.RANGE);
            CHECKS.due("follows(1, 0, " + bad + ")", bench.follows(1, 0, bad), CraigBench.RANGE);
            CHECKS.due("gap(1, " + bad + ", 0)", bench.gap(1, bad, 0), CraigBench.RANGE);
            CHECKS.due("gap(1, " + bad + ", 3)", bench.gap(1, bad, 3), CraigBench.RANGE);
        }
        CHECKS.due("told(0) after refusals", bench.told(0), 512);
        for (int bad : new int[] {-1, 1024, Integer.MIN_VALUE, Integer.MAX_VALUE}) {
            CHECKS.due("value(" + bad + ")", bench.value(bad), CraigBench.NONE);
            CHECKS.due("partial(1, " + bad + ")", bench.partial(1, bad), CraigBench.NONE);
        }
        for (int bad : new int[] {-1, 0, 12, 200, 201, Integer.MIN_VALUE, Integer.MAX_VALUE}) {
            CHECKS.due("partial(" + bad + ", 0)", bench.partial(bad, 0), CraigBench.NONE);
        }
        for (int bad : new int[] {-1, 2, Integer.MIN_VALUE, Integer.MAX_VALUE}) {
            CHECKS.due("told(" + bad + ")", bench.told(bad), CraigBench.NONE);
        }
        for (int bad : new int[] {-1, 3, Integer.MIN_VALUE, Integer.MAX_VALUE}) {
            CHECKS.due("graph(0, " + bad + ")", bench.graph(0, bad), CraigBench.NONE);
        }
        for (int bad : new int[] {-1, 1, 269, 1024, Integer.MIN_VALUE, Integer.MAX_VALUE}) {
            CHECKS.due("graph(" + bad + ", 0)", bench.graph(bad, 0), CraigBench.NONE);
        }
        CHECKS.due("value(1023)", bench.value(1023), 0);
        CHECKS.due("value(1019)", bench.value(1019), 1);
        refusalsWithoutRefutation();
    }

    private static void refusalsWithoutRefutation() {
        CraigBench bench = Checks.benchWith("c1:1;c2:-1;");
        CHECKS.due("interpolate(1, 0)", bench.interpolate(1, 0), CraigBench.NONE);
        CHECKS.due("interpolate(0, 0)", bench.interpolate(0, 0), CraigBench.RANGE);
        CHECKS.due("interpolate(1, 4)", bench.interpolate(1, 4), CraigBench.RANGE);
        CHECKS.due("follows(7, 3, 3)", bench.follows(7, 3, 3), CraigBench.NONE);
        CHECKS.due("follows(8, 3, 3)", bench.follows(8, 3, 3), CraigBench.RANGE);
        CHECKS.due("gap(7, 3, 2)", bench.gap(7, 3, 2), CraigBench.NONE);
        CHECKS.due("gap(7, 3, 3)", bench.gap(7, 3, 3), CraigBench.NONE);
        CHECKS.due("gap(0, 3, 2)", bench.gap(0, 3, 2), CraigBench.RANGE);
        CHECKS.due("told(0)", bench.told(0), CraigBench.NONE);
        CHECKS.due("value(0)", bench.value(0), CraigBench.NONE);
    }

    private static void whatWasToldStays() {
        CraigBench bench = Checks.benchWith("c3:7;" + PROOF.replace("r10 8", "r11 9").replace("r9 6", "r10 7")
            .replace("r5 4", "r6 5").replace("r3 7", "r4 8").replace("r1 2", "r2 3"));
        CHECKS.due("refutation()", bench.refutation(), 12);
        CHECKS.due("interpolate(1, 0)", bench.interpolate(1, 0), 2);
        CHECKS.due("partial(1, 0): not needed", bench.partial(1, 0), CraigBench.NONE);
        CHECKS.due("partial(2, 0)", bench.partial(2, 0), 1);
        bench.label(2, 1);
        bench.follows(1, 2, 1);
        bench.gap(1, 2, 2);
        Checks.readText(bench, "c1:;c1:2 3;");
        CHECKS.due("partial(13, 0): was not there", bench.partial(13, 0), CraigBench.NONE);
        bench.clear();
        CHECKS.due("refused", bench.interpolate(1, 2), CraigBench.NONE);
        CHECKS.due("told(0) after clear()", bench.told(0), 256);
        CHECKS.due("told(1) after clear()", bench.told(1), 0b110);
        CHECKS.due("value(2) after clear()", bench.value(2), 1);
        CHECKS.due("value(6) after clear()", bench.value(6), 0);
        CHECKS.nodeDue(bench, 0, 2, FALSE_SIDE, 1);
        Checks.readText(bench, "c1:10;c1:9;c2:;");
        CHECKS.due("partial(1, 0) of the old", bench.partial(1, 0), CraigBench.NONE);
        CHECKS.due("partial(2, 2) of the old", bench.partial(2, 2), 0);
        CHECKS.due("partial(12, 2) of the old", bench.partial(12, 2), 1);
        CHECKS.due("interpolate of the new", bench.interpolate(1, 2), 0);
        CHECKS.due("partial(12, 2) of the new", bench.partial(12, 2), CraigBench.NONE);
        CHECKS.due("partial(2, 2) of the new", bench.partial(2, 2), CraigBench.NONE);
        CHECKS.due("partial(3, 2) of the new", bench.partial(3, 2), 1);
        CHECKS.due("graph(0, 0) of the new", bench.graph(0, 0), CraigBench.NONE);
    }

    private static void constants() {
        CraigBench bench = Checks.benchWith("c4:;");
        for (int cut = 1; cut <= 7; cut++) {
            for (int system = 0; system <= 3; system++) {
                int truth = cut >= 4 ? 0 : 1;
                CHECKS.due("interpolate(" + cut + ", " + system + ")", bench.interpolate(cut, system), 0);
                CHECKS.due("told(0)", bench.told(0), 1024 * truth);
                CHECKS.due("told(1)", bench.told(1), 0);
                CHECKS.due("value(0)", bench.value(0), truth);
                CHECKS.due("partial(1, 1023)", bench.partial(1, 1023), truth);
                CHECKS.due("graph(0, 0)", bench.graph(0, 0), CraigBench.NONE);
            }
        }
    }

    private static void sharedNode() {
        // Block 1 makes 1 xor 2 xor 3 of 4, block 2 denies it: one node of 3 is come to from two ways.
        CraigBench bench = Checks.benchWith(
            "c1:1 2 3;c1:1 -2 -3;c1:-1 2 -3;c1:-1 -2 3;c2:-1 2 3;c2:1 -2 3;c2:1 2 -3;c2:-1 -2 -3;");
        bench.eliminate(1);
        bench.eliminate(2);
        bench.eliminate(3);
        CHECKS.due("interpolate(1, 0)", bench.interpolate(1, 0), 5);
        CHECKS.due("told(0)", bench.told(0), 512);
        CHECKS.due("told(1)", bench.told(1), 7);
        CHECKS.nodeDue(bench, 0, 1, 1, 4);
        CHECKS.nodeDue(bench, 1, 2, 2, 3);
        CHECKS.nodeDue(bench, 2, 3, FALSE_SIDE, TRUE_SIDE);
        CHECKS.nodeDue(bench, 3, 3, TRUE_SIDE, FALSE_SIDE);
        CHECKS.nodeDue(bench, 4, 2, 3, 2);
    }

    private static void widestGraph() {
        // (1 or 6) and (2 or 7) and .. and (5 or 10): all of the first five must be known.
        CraigBench bench = Checks.benchWith("c1:1 6;c1:2 7;c1:3 8;c1:4 9;c1:5 10;"
            + "c2:-1;c2:-2;c2:-3;c2:-4;c2:-5;c2:-6 -7 -8 -9 -10;"
            + "r1 6 1;r2 7 2;r3 8 3;r4 9 4;r5 10 5;r12 11 6;r13 17 7;r14 18 8;r15 19 9;r16 20 10;");
        CHECKS.due("refutation()", bench.refutation(), 21);
        CHECKS.due("interpolate(1, 0)", bench.interpolate(1, 0), 62);
        CHECKS.due("told(0)", bench.told(0), 243);
        CHECKS.due("told(1)", bench.told(1), 1023);
        for (int i = 0; i <= 5; i++) {
            CHECKS.due("graph(" + i + ", 0)", bench.graph(i, 0), i + 1);
        }
        CHECKS.due("graph(61, 0)", bench.graph(61, 0) > 0 ? 1 : 0, 1);
        CHECKS.due("graph(62, 0)", bench.graph(62, 0), CraigBench.NONE);
    }

    private static void lastClause() {
        // 199 clauses without a refutation, the 200th is it.
        CraigBench bench = Checks.benchWith("c1:1 2;c2:-1 2;c1:-2 3;c2:-3;" + "r1 2 1;".repeat(194));
        CHECKS.due("read of two", Checks.readText(bench, "r3 4 3;r198 199 2;"), 2);
        CHECKS.due("refutation()", bench.refutation(), 200);
        CHECKS.due("clause(200, 6)", bench.clause(200, 6), 1);
        CHECKS.due("count(3)", bench.count(3), 7);
        CHECKS.due("interpolate(1, 0)", bench.interpolate(1, 0), 4);
        // (1 or 2) and (-2 or 3)
        for (int valuation = 0; valuation < 8; valuation++) {
            int want = (bit(valuation, 1) | bit(valuation, 2)) & (1 - bit(valuation, 2) | bit(valuation, 3));
            CHECKS.due("value(" + valuation + ")", bench.value(valuation), want);
            CHECKS.due("partial(200, " + valuation + ")", bench.partial(200, valuation), want);
            CHECKS.due("partial(197, " + valuation + ")", bench.partial(197, valuation), CraigBench.NONE);
        }
        CHECKS.due("follows(1, 0, 1)", bench.follows(1, 0, 1), 1);
        CHECKS.due("gap(1, 0, 2)", bench.gap(1, 0, 2), 0);
        CHECKS.due("clear()", bench.clear(), 200);
        CHECKS.due("told(0) after clear()", bench.told(0), 512);
        Checks.readText(bench, "c1:;");
        CHECKS.due("interpolate(1, 0) of another", bench.interpolate(1, 0), 0);
        CHECKS.due("partial(200, 6) of another", bench.partial(200, 6), CraigBench.NONE);
    }

    private static void followsInTheFirstValuations() {
        // As PROOF, but what tells the systems apart is so only when 7, 8, 9 and 10 are false.
        CraigBench bench = Checks.benchWith("c1:1 -2;c1:-1 -3;c1:2;c2:-2 3 7 8 9 10;c2:2 4;c2:-4;"
            + "c1:-7;c1:-8;c1:-9;c1:-10;"
            + "r1 2 1;r3 11 2;r5 4 2;r13 6 4;r14 7 7;r15 8 8;r16 9 9;r17 10 10;r18 12 3;");
        CHECKS.due("refutation()", bench.refutation(), 19);
        CHECKS.due("interpolate(1, 0)", bench.interpolate(1, 0), 6);
        CHECKS.due("told(0)", bench.told(0), 16);
        CHECKS.due("interpolate(1, 1)", bench.interpolate(1, 1), 5);
        CHECKS.due("told(0)", bench.told(0), 32);
        CHECKS.due("follows(1, 0, 1)", bench.follows(1, 0, 1), 1);
        CHECKS.due("follows(1, 1, 0)", bench.follows(1, 1, 0), 0);
    }

    private static void follows() {
        CraigBench bench = Checks.benchWith(PROOF);
        int[][] want = {{1, 1, 1, 1}, {0, 1, 1, 0}, {0, 0, 1, 0}, {1, 1, 1, 1}};
        for (int other = 0; other <= 3; other++) {
            for (int system = 0; system <= 3; system++) {
                CHECKS.due("follows(1, " + other + ", " + system + ")", bench.follows(1, other, system),
                    want[other][system]);
            }
        }
        CHECKS.due("told(0) after follows", bench.told(0), CraigBench.NONE);
        bench.label(2, 1);
        bench.label(3, 1);
        CHECKS.due("follows(1, 3, 1)", bench.follows(1, 3, 1), 0);
        CHECKS.due("follows(1, 1, 3)", bench.follows(1, 1, 3), 1);
        CHECKS.due("follows(2, 0, 2)", bench.follows(2, 0, 2), 1);
    }

    private static void gap() {
        CraigBench bench = Checks.benchWith(PROOF);
        bench.label(2, 3);
        for (int cut = 1; cut <= 7; cut++) {
            for (int system = 0; system <= 3; system++) {
                for (int what = 0; what <= 2; what++) {
                    CHECKS.due("gap(" + cut + ", " + system + ", " + what + ")", bench.gap(cut, system, what), 0);
                }
                CHECKS.due("gap(" + cut + ", " + system + ", 3)", bench.gap(cut, system, 3), CraigBench.NONE);
                CHECKS.due("gap(" + cut + ", " + system + ", -1)", bench.gap(cut, system, -1), CraigBench.NONE);
            }
        }
        CHECKS.due("told(0) after gap", bench.told(0), CraigBench.NONE);
    }
}
