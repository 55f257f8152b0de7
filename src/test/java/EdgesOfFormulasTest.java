/** Term II of the document, INTERPOLANTS: a test for each of its sentences that names a boundary. */
final class EdgesOfFormulasTest {
    private static final Checks CHECKS = new Checks("EdgesOfFormulasTest");
    private static final int FALSE_SIDE = -2;
    private static final int TRUE_SIDE = -3;
    private static final int A = 1;
    private static final int B = 2;
    private static final int AB = 3;

    // Of cut 4: 1 is AHEAD alone, 4 BEHIND alone, 2 and 3 are SHARED. All systems come to (-2 or 3), by other ways.
    private static final String PROOF = "c4:1 -2 3;c1:-1;c5:2 4;c8:-3;c5:-4;r1 2 1;r3 5 4;r7 6 2;r8 4 3;";

    public static void main(String[] args) {
        cuts();
        ahead();
        behind();
        shared();
        labelOfAheadAlone();
        labelOfNowhere();
        labelOfBehindAlone();
        labelOfShared();
        ownLabels();
        labelsAtFirst();
        partialAhead();
        partialBehind();
        resolventOnA();
        resolventOnB();
        resolventOnAb();
        interpolantIsThatOfTheRefutation();
        valuations();
        constantsHaveNoNode();
        leastVariable();
        sides();
        oneNode();
        numbering();
        CHECKS.finish();
    }

    private static int bit(int valuation, int v) {
        return valuation >> (v - 1) & 1;
    }

    /** A formula over 1 to 4, as sixteen truths: the valuation 0 first. */
    private static void partialDue(CraigBench bench, int i, String truths) {
        for (int valuation = 0; valuation < 16; valuation++) {
            CHECKS.due("partial(" + i + ", " + valuation + ")", bench.partial(i, valuation),
                truths.charAt(valuation) - '0');
        }
    }

    private static final String FALSE = "0".repeat(16);
    private static final String TRUE = "1".repeat(16);
    private static final String NOT_2 = "1100".repeat(4);
    private static final String IS_3 = "00001111".repeat(2);
    private static final String NOT_2_OR_3 = "11001111".repeat(2);

    private static CraigBench proofTold(int cut, int system) {
        CraigBench bench = Checks.benchWith(PROOF);
        CHECKS.due("refutation()", bench.refutation(), 9);
        CHECKS.due("interpolate(" + cut + ", " + system + ") >= 0", bench.interpolate(cut, system) >= 0 ? 1 : 0, 1);
        return bench;
    }

    private static CraigBench proofTold(int labelOf2, int labelOf3, int labelOfOthers) {
        CraigBench bench = Checks.benchWith(PROOF);
        bench.label(2, labelOf2);
        bench.label(3, labelOf3);
        bench.label(1, labelOfOthers);
        bench.label(4, labelOfOthers);
        CHECKS.due("interpolate(4, 3)", bench.interpolate(4, 3), 2);
        return bench;
    }

    private static void cuts() {
        CHECKS.sentence("Of a CUT k, 1 .. 7");
        CraigBench bench = Checks.benchWith("c1:;");
        for (int cut = 1; cut <= 7; cut++) {
            CHECKS.due("variables(" + cut + ", 0)", bench.variables(cut, 0), 0);
            CHECKS.due("interpolate(" + cut + ", 0)", bench.interpolate(cut, 0), 0);
            CHECKS.due("follows(" + cut + ", 0, 0)", bench.follows(cut, 0, 0), 1);
            CHECKS.due("gap(" + cut + ", 0, 0)", bench.gap(cut, 0, 0), 0);
        }
        for (int cut : new int[] {0, 8, -1, Integer.MIN_VALUE, Integer.MAX_VALUE}) {
            CHECKS.due("variables(" + cut + ", 0)", bench.variables(cut, 0), CraigBench.RANGE);
            CHECKS.due("interpolate(" + cut + ", 0)", bench.interpolate(cut, 0), CraigBench.RANGE);
            CHECKS.due("follows(" + cut + ", 0, 0)", bench.follows(cut, 0, 0), CraigBench.RANGE);
            CHECKS.due("gap(" + cut + ", 0, 0)", bench.gap(cut, 0, 0), CraigBench.RANGE);
        }
    }

    private static void ahead() {
        CHECKS.sentence("a VARIABLE is AHEAD, if given CLAUSES of BLOCKS up to k have it (or its opposite)");
        for (int block = 1; block <= 8; block++) {
            CraigBench bench = Checks.benchWith("c" + block + ":1 -10;");
            for (int cut = 1; cut <= 7; cut++) {
                CHECKS.due("AHEAD of cut " + cut + ", BLOCK " + block, bench.variables(cut, 0),
                    block <= cut ? 0b1000000001 : 0);
            }
        }
        // RESOLVENTS make none AHEAD.
        CraigBench bench = Checks.benchWith("c8:1 2;c8:-1 3;r1 2 1;");
        CHECKS.due("variables(7, 0)", bench.variables(7, 0), 0);
        // Given CLAUSES that aren't LIVE any more, and that no REFUTATION needs, do.
        CraigBench other = Checks.benchWith("c1:5;c2:-5 6;");
        other.eliminate(5);
        CHECKS.due("count(2)", other.count(2), 1);
        CHECKS.due("variables(1, 0)", other.variables(1, 0), 0b10000);
        CHECKS.due("variables(2, 0)", other.variables(2, 0), 0b110000);
    }

    private static void behind() {
        CHECKS.sentence("BEHIND, if some of others have it");
        for (int block = 1; block <= 8; block++) {
            CraigBench bench = Checks.benchWith("c" + block + ":-1 10;");
            for (int cut = 1; cut <= 7; cut++) {
                CHECKS.due("BEHIND cut " + cut + ", BLOCK " + block, bench.variables(cut, 1),
                    block > cut ? 0b1000000001 : 0);
            }
        }
        CraigBench bench = Checks.benchWith("c1:1 2;c1:-1 3;r1 2 1;");
        CHECKS.due("variables(1, 1)", bench.variables(1, 1), 0);
        CHECKS.due("variables(7, 1)", bench.variables(7, 1), 0);
    }

    private static void shared() {
        CHECKS.sentence("SHARED if both");
        CraigBench bench = Checks.benchWith("c3:1 2;c4:-2 3;c5:3;");
        int[] want = {0, 0, 0b010, 0b100, 0, 0, 0};
        for (int cut = 1; cut <= 7; cut++) {
            CHECKS.due("variables(" + cut + ", 2)", bench.variables(cut, 2), want[cut - 1]);
        }
        // One CLAUSE more makes 1 SHARED, though the REFUTATION stays as it was.
        CraigBench other = Checks.benchWith("c1:1;c1:-1;r1 2 1;");
        CHECKS.due("interpolate(1, 0)", other.interpolate(1, 0), 0);
        CHECKS.due("partial(1, 1)", other.partial(1, 1), 0);
        CHECKS.readsOn(other, "c2:1;", 1);
        CHECKS.due("variables(1, 2)", other.variables(1, 2), 1);
        CHECKS.due("interpolate(1, 0)", other.interpolate(1, 0), 0);
        CHECKS.due("partial(1, 1)", other.partial(1, 1), 1);
    }

    private static void labelOfAheadAlone() {
        CHECKS.sentence("Each has a LABEL: a, if it is AHEAD alone");
        for (int system = 0; system <= 3; system++) {
            CraigBench bench = proofTold(4, system);
            partialDue(bench, 2, FALSE);
        }
        // As told by label() it is only if SHARED.
        for (int l = A; l <= AB; l++) {
            CraigBench bench = proofTold(B, B, l);
            partialDue(bench, 1, NOT_2_OR_3);
            partialDue(bench, 2, FALSE);
            partialDue(bench, 6, NOT_2_OR_3);
        }
        // Of cut 7 all are: FALSE by each system.
        CraigBench all = Checks.benchWith("c7:1;c1:-1;r1 2 1;");
        all.label(1, B);
        for (int system = 0; system <= 3; system++) {
            CHECKS.due("interpolate(7, " + system + ")", all.interpolate(7, system), 0);
            CHECKS.due("partial(1, 1)", all.partial(1, 1), 0);
            CHECKS.due("told(0)", all.told(0), 0);
        }
    }

    private static void labelOfNowhere() {
        CHECKS.sentence("a, .. (or nowhere)");
        // 10 is nowhere: whatever it is told to be, nothing hangs on it.
        for (int l = A; l <= AB; l++) {
            CraigBench bench = Checks.benchWith(PROOF);
            bench.label(10, l);
            CHECKS.due("variables(4, 0) of 10", bench.variables(4, 0) >> 9, 0);
            CHECKS.due("variables(4, 1) of 10", bench.variables(4, 1) >> 9, 0);
            CHECKS.due("interpolate(4, 3)", bench.interpolate(4, 3), 2);
            CHECKS.due("told(1)", bench.told(1), 0b110);
            for (int i = 1; i <= 9; i++) {
                CHECKS.due("partial(" + i + ", 512)", bench.partial(i, 512), bench.partial(i, 0));
            }
        }
    }

    private static void labelOfBehindAlone() {
        CHECKS.sentence("b, if BEHIND alone");
        for (int system = 0; system <= 3; system++) {
            CraigBench bench = proofTold(4, system);
            partialDue(bench, 5, TRUE);
        }
        for (int l = A; l <= AB; l++) {
            CraigBench bench = proofTold(A, A, l);
            partialDue(bench, 3, NOT_2);
            partialDue(bench, 5, TRUE);
            partialDue(bench, 7, NOT_2);
        }
        // Of cut 1 all are: TRUE by each system.
        CraigBench all = Checks.benchWith("c2:1;c8:-1;r1 2 1;");
        all.label(1, A);
        for (int system = 0; system <= 3; system++) {
            CHECKS.due("interpolate(1, " + system + ")", all.interpolate(1, system), 0);
            CHECKS.due("partial(1, 1)", all.partial(1, 1), 1);
            CHECKS.due("told(0)", all.told(0), 1024);
        }
    }

    private static void labelOfShared() {
        CHECKS.sentence("if SHARED: by system 0 (McMillan) b, 1 (Pudlak) ab, 2 (inverse) a");
        CraigBench mcMillan = proofTold(4, 0);
        partialDue(mcMillan, 1, NOT_2_OR_3);
        partialDue(mcMillan, 3, TRUE);
        partialDue(mcMillan, 4, TRUE);
        partialDue(mcMillan, 8, NOT_2_OR_3);
        CraigBench pudlak = proofTold(4, 1);
        partialDue(pudlak, 1, FALSE);
        partialDue(pudlak, 3, TRUE);
        partialDue(pudlak, 4, TRUE);
        partialDue(pudlak, 8, NOT_2);
        CraigBench inverse = proofTold(4, 2);
        partialDue(inverse, 1, FALSE);
        partialDue(inverse, 3, NOT_2);
        partialDue(inverse, 4, IS_3);
        partialDue(inverse, 8, NOT_2);
    }

    private static void ownLabels() {
        CHECKS.sentence("3 (LABELS) as told by label()");
        CraigBench first = proofTold(A, B, B);
        partialDue(first, 1, IS_3);
        partialDue(first, 3, NOT_2);
        partialDue(first, 4, TRUE);
        partialDue(first, 8, NOT_2_OR_3);
        CraigBench second = proofTold(AB, A, B);
        partialDue(second, 1, FALSE);
        partialDue(second, 3, TRUE);
        partialDue(second, 4, IS_3);
        partialDue(second, 8, NOT_2);
        CraigBench third = proofTold(B, AB, B);
        partialDue(third, 1, NOT_2);
        partialDue(third, 3, TRUE);
        partialDue(third, 4, TRUE);
        partialDue(third, 8, NOT_2);
        // Each of the ten by its own: told a, the CLAUSE ahead says nothing, and the one behind does.
        for (int v = 1; v <= 10; v++) {
            CraigBench bench = Checks.benchWith("c1:" + v + ";c2:-" + v + ";r1 2 " + v + ";");
            bench.label(v, A);
            CHECKS.due("interpolate(1, 3)", bench.interpolate(1, 3), 1);
            CHECKS.due(v + ": partial(1, 1023)", bench.partial(1, 1023), 0);
            CHECKS.due(v + ": partial(2, 0)", bench.partial(2, 0), 0);
            bench.label(v % 10 + 1, AB);
            bench.label(v, B);
            bench.interpolate(1, 3);
            CHECKS.due(v + ": partial(1, 1023)", bench.partial(1, 1023), 1);
            CHECKS.due(v + ": partial(2, 0)", bench.partial(2, 0), 1);
        }
        // The other systems ask no LABELS.
        third.interpolate(4, 0);
        partialDue(third, 1, NOT_2_OR_3);
    }

    private static void labelsAtFirst() {
        CHECKS.sentence("b at first");
        CraigBench bench = proofTold(4, 3);
        partialDue(bench, 1, NOT_2_OR_3);
        partialDue(bench, 3, TRUE);
        partialDue(bench, 4, TRUE);
        partialDue(bench, 8, NOT_2_OR_3);
        for (int v = 1; v <= 10; v++) {
            CHECKS.due("label(" + v + ", 2)", bench.label(v, B), B);
        }
    }

    private static void partialAhead() {
        CHECKS.sentence("of a given one of a BLOCK up to k: that one of its LITERALS with the LABEL b is true"
            + " (false without one)");
        CraigBench bench = proofTold(4, 0);
        partialDue(bench, 1, NOT_2_OR_3);
        partialDue(bench, 2, FALSE);
        CHECKS.due("interpolate(3, 2)", bench.interpolate(3, 2) >= 0 ? 1 : 0, 1);
        // BLOCK 4 is behind cut 3, where 1 is SHARED, and 2 and 3 are BEHIND alone.
        partialDue(bench, 1, "10".repeat(8));
        partialDue(bench, 2, FALSE);
        // One without any LITERAL
        CraigBench empty = Checks.benchWith("c4:;c1:5;c8:5;");
        for (int cut = 4; cut <= 7; cut++) {
            for (int system = 0; system <= 3; system++) {
                CHECKS.due("interpolate(" + cut + ", " + system + ")", empty.interpolate(cut, system), 0);
                CHECKS.due("value(0)", empty.value(0), 0);
                CHECKS.due("partial(1, 1023)", empty.partial(1, 1023), 0);
            }
        }
    }

    private static void partialBehind() {
        CHECKS.sentence("of one of a BLOCK behind: that none of its LITERALS with the LABEL a is (true without one)");
        CraigBench bench = proofTold(4, 2);
        partialDue(bench, 3, NOT_2);
        partialDue(bench, 4, IS_3);
        partialDue(bench, 5, TRUE);
        // BLOCK 5 is up to 5: there the CLAUSE has no LITERAL with the LABEL b.
        CHECKS.due("interpolate(5, 2)", bench.interpolate(5, 2) >= 0 ? 1 : 0, 1);
        partialDue(bench, 3, FALSE);
        partialDue(bench, 5, FALSE);
        partialDue(bench, 4, IS_3);
        // Two LITERALS with the LABEL a: neither may be true.
        CraigBench two = Checks.benchWith("c1:1;c1:-2;c2:-1 2;r1 3 1;r4 2 2;");
        CHECKS.due("interpolate(1, 2)", two.interpolate(1, 2), 2);
        partialDue(two, 3, "0100".repeat(4));
        CraigBench empty = Checks.benchWith("c4:;c1:5;c8:5;");
        for (int cut = 1; cut <= 3; cut++) {
            for (int system = 0; system <= 3; system++) {
                CHECKS.due("interpolate(" + cut + ", " + system + ")", empty.interpolate(cut, system), 0);
                CHECKS.due("value(0)", empty.value(0), 1);
                CHECKS.due("partial(1, 1023)", empty.partial(1, 1023), 1);
            }
        }
    }

    private static void resolventOnA() {
        CHECKS.sentence("Of a RESOLVENT on v of i with P and j with Q: if v has the LABEL a: P or Q");
        CraigBench bench = proofTold(4, 0);
        // (-2 or 3) or FALSE
        partialDue(bench, 6, NOT_2_OR_3);
        CraigBench inverse = proofTold(4, 2);
        // -2 or FALSE, then -2 or 3
        partialDue(inverse, 8, NOT_2);
        partialDue(inverse, 9, NOT_2_OR_3);
    }

    private static void resolventOnB() {
        CHECKS.sentence("b: P and Q");
        CraigBench bench = proofTold(4, 2);
        // -2 and TRUE
        partialDue(bench, 7, NOT_2);
        CraigBench two = Checks.benchWith("c1:1 2;c1:-1 3;c2:1 -2;c2:-2;c2:-3;r1 2 1;r6 4 2;r7 5 3;");
        CHECKS.due("interpolate(1, 0)", two.interpolate(1, 0), 3);
        // (1 or 2) and (-1 or 3)
        partialDue(two, 6, "00100111".repeat(2));
        partialDue(two, 8, "00100111".repeat(2));
    }

    private static void resolventOnAb() {
        CHECKS.sentence("ab: (v or P) and (-v or Q)");
        CraigBench bench = proofTold(4, 1);
        // (2 or TRUE) and (-2 or FALSE), then (3 or -2) and (-3 or TRUE)
        partialDue(bench, 8, NOT_2);
        partialDue(bench, 9, NOT_2_OR_3);
        CraigBench other = Checks.benchWith("c1:2;c2:-2;r1 2 2;");
        CHECKS.due("interpolate(1, 1)", other.interpolate(1, 1), 1);
        // (2 or FALSE) and (-2 or TRUE)
        partialDue(other, 3, "0011".repeat(4));
        // P and Q each of a VARIABLE: 1 is ab, 2 and 3 are b
        CraigBench third = Checks.benchWith("c1:1 2;c1:-1 3;c2:1 -2;c2:-2;c2:-3;r1 2 1;r6 4 2;r7 5 3;");
        third.label(1, AB);
        CHECKS.due("interpolate(1, 3)", third.interpolate(1, 3), 3);
        partialDue(third, 1, "0011".repeat(4));
        partialDue(third, 2, IS_3);
        // (1 or 2) and (-1 or 3)
        partialDue(third, 6, "00100111".repeat(2));
    }

    private static void interpolantIsThatOfTheRefutation() {
        CHECKS.sentence("THE INTERPOLANT is that of THE REFUTATION");
        // A second CLAUSE without LITERALS comes later; the first is asked.
        CraigBench bench = Checks.benchWith("c1:1;c2:-1;c1:;r1 2 1;");
        CHECKS.due("interpolate(1, 0)", bench.interpolate(1, 0), 0);
        CHECKS.due("value(1)", bench.value(1), 0);
        CHECKS.due("partial(4, 1)", bench.partial(4, 1), CraigBench.NONE);
        CraigBench other = Checks.benchWith("c1:1;c2:-1;r1 2 1;c1:;");
        CHECKS.due("interpolate(1, 0)", other.interpolate(1, 0), 1);
        CHECKS.due("value(1)", other.value(1), 1);
        // Not every one: an object's answers are promised for 512 calls.
        for (int valuation = 0; valuation < 1024; valuation += 5) {
            CHECKS.due("value(" + valuation + ")", other.value(valuation), other.partial(3, valuation));
        }
    }

    private static void valuations() {
        CHECKS.sentence("A VALUATION is a number 0 .. 1023: bit v - 1 tells whether VARIABLE v is true");
        for (int v = 1; v <= 10; v++) {
            CraigBench bench = Checks.benchWith("c1:" + v + ";c2:-" + v + ";r1 2 " + v + ";");
            CHECKS.due("interpolate(1, 0)", bench.interpolate(1, 0), 1);
            for (int valuation : new int[] {0, 1 << (v - 1), 1023, 1023 ^ 1 << (v - 1), 0x155, 0x2AA, 511, 512}) {
                CHECKS.due(v + ": value(" + valuation + ")", bench.value(valuation), bit(valuation, v));
                CHECKS.due(v + ": partial(1, " + valuation + ")", bench.partial(1, valuation), bit(valuation, v));
            }
            CHECKS.due("value(-1)", bench.value(-1), CraigBench.NONE);
            CHECKS.due("value(1024)", bench.value(1024), CraigBench.NONE);
            CHECKS.due("partial(1, -1)", bench.partial(1, -1), CraigBench.NONE);
            CHECKS.due("partial(1, 1024)", bench.partial(1, 1024), CraigBench.NONE);
        }
    }

    private static void constantsHaveNoNode() {
        CHECKS.sentence("TRUE and FALSE by themselves have no node");
        CraigBench bench = Checks.benchWith("c4:1;c4:-1;r1 2 1;");
        for (int cut = 1; cut <= 7; cut++) {
            CHECKS.due("interpolate(" + cut + ", 0)", bench.interpolate(cut, 0), 0);
            CHECKS.due("graph(0, 0)", bench.graph(0, 0), CraigBench.NONE);
            CHECKS.due("told(0)", bench.told(0), cut < 4 ? 1024 : 0);
        }
        // Nodes told ahead of it are gone.
        CraigBench other = Checks.benchWith("c1:1;c2:-1;r1 2 1;");
        CHECKS.due("interpolate(1, 0)", other.interpolate(1, 0), 1);
        CHECKS.due("graph(0, 0)", other.graph(0, 0), 1);
        CHECKS.due("interpolate(2, 0)", other.interpolate(2, 0), 0);
        CHECKS.due("graph(0, 0)", other.graph(0, 0), CraigBench.NONE);
    }

    private static void leastVariable() {
        CHECKS.sentence("else a node has the least VARIABLE on which the formula hangs");
        // (1 or 2) and (-1 or 2) doesn't hang on 1.
        CraigBench bench = Checks.benchWith("c1:1 2;c1:-1 2;c2:-2;c2:1;r1 2 1;r5 3 2;");
        CHECKS.due("interpolate(1, 0)", bench.interpolate(1, 0), 1);
        CHECKS.nodeDue(bench, 0, 2, FALSE_SIDE, TRUE_SIDE);
        CHECKS.due("told(1)", bench.told(1), 0b10);
        // Only the last one, and the first with the last
        CraigBench last = Checks.benchWith("c1:10;c2:-10;r1 2 10;");
        CHECKS.due("interpolate(1, 0)", last.interpolate(1, 0), 1);
        CHECKS.nodeDue(last, 0, 10, FALSE_SIDE, TRUE_SIDE);
        CraigBench both = Checks.benchWith("c1:1 10;c2:-1;c2:-10;r1 2 1;r4 3 10;");
        CHECKS.due("interpolate(1, 0)", both.interpolate(1, 0), 2);
        CHECKS.nodeDue(both, 0, 1, 1, TRUE_SIDE);
        CHECKS.nodeDue(both, 1, 10, FALSE_SIDE, TRUE_SIDE);
    }

    private static void sides() {
        CHECKS.sentence("a LOW (with that one false) and a HIGH side (true), each TRUE, FALSE or the node of what the"
            + " formula is then");
        CraigBench yes = Checks.benchWith("c1:5;c2:-5;r1 2 5;");
        CHECKS.due("interpolate(1, 0)", yes.interpolate(1, 0), 1);
        CHECKS.nodeDue(yes, 0, 5, FALSE_SIDE, TRUE_SIDE);
        CraigBench no = Checks.benchWith("c1:-5;c2:5;r2 1 5;");
        CHECKS.due("interpolate(1, 0)", no.interpolate(1, 0), 1);
        CHECKS.nodeDue(no, 0, 5, TRUE_SIDE, FALSE_SIDE);
        CraigBench bench = proofTold(4, 0);
        CHECKS.nodeDue(bench, 0, 2, TRUE_SIDE, 1);
        CHECKS.nodeDue(bench, 1, 3, FALSE_SIDE, TRUE_SIDE);
    }

    /** 1 xor 2 xor 3 ahead of cut 1, its opposite behind. */
    private static CraigBench parity() {
        CraigBench bench = Checks.benchWith(
            "c1:1 2 3;c1:1 -2 -3;c1:-1 2 -3;c1:-1 -2 3;c2:-1 2 3;c2:1 -2 3;c2:1 2 -3;c2:-1 -2 -3;");
        bench.eliminate(1);
        bench.eliminate(2);
        bench.eliminate(3);
        return bench;
    }

    private static void oneNode() {
        CHECKS.sentence("formulas that are true for the same VALUATIONS have one node");
        CraigBench bench = parity();
        CHECKS.due("interpolate(1, 0)", bench.interpolate(1, 0), 5);
        // (1 or 6) and .. and (5 or 10): of 32 ways down through 1 to 5 none meet; behind them many do.
        CraigBench wide = Checks.benchWith("c1:1 6;c1:2 7;c1:3 8;c1:4 9;c1:5 10;"
            + "c2:-1;c2:-2;c2:-3;c2:-4;c2:-5;c2:-6 -7 -8 -9 -10;"
            + "r1 6 1;r2 7 2;r3 8 3;r4 9 4;r5 10 5;r12 11 6;r13 17 7;r14 18 8;r15 19 9;r16 20 10;");
        CHECKS.due("interpolate(1, 0)", wide.interpolate(1, 0), 62);
        int[] of = new int[11];
        for (int i = 0; i < 62; i++) {
            int v = wide.graph(i, 0);
            if (v >= 1 && v <= 10) {
                of[v]++;
            }
        }
        int[] want = {0, 1, 2, 4, 8, 16, 16, 8, 4, 2, 1};
        for (int v = 1; v <= 10; v++) {
            CHECKS.due("nodes of " + v, of[v], want[v]);
        }
    }

    private static void numbering() {
        CHECKS.sentence("Nodes are numbered from 0 as they are first come to: a node, then its LOW side, then its HIGH"
            + " side");
        CraigBench bench = parity();
        CHECKS.due("interpolate(1, 0)", bench.interpolate(1, 0), 5);
        CHECKS.due("graph(-1, 0)", bench.graph(-1, 0), CraigBench.NONE);
        CHECKS.nodeDue(bench, 0, 1, 1, 4);
        CHECKS.nodeDue(bench, 1, 2, 2, 3);
        CHECKS.nodeDue(bench, 2, 3, FALSE_SIDE, TRUE_SIDE);
        CHECKS.nodeDue(bench, 3, 3, TRUE_SIDE, FALSE_SIDE);
        CHECKS.nodeDue(bench, 4, 2, 3, 2);
        CHECKS.due("graph(5, 0)", bench.graph(5, 0), CraigBench.NONE);
    }
}
