/** Promises 6 to 11 and 19: clear, clause, refutation, eliminate, label, variables, count. */
final class ClausesTest {
    private static final Checks CHECKS = new Checks("ClausesTest");

    public static void main(String[] args) {
        clear();
        clause();
        refutation();
        eliminate();
        eliminateSkips();
        eliminateWithLaterClauses();
        eliminateUntilFull();
        label();
        variables();
        count();
        CHECKS.finish();
    }

    private static void clear() {
        CraigBench bench = Checks.benchWith("c1:1;c2:-1;r1 2 1;");
        bench.label(4, 1);
        bench.label(5, 3);
        Checks.feedText(bench, "c3:7;");
        CHECKS.due("clear()", bench.clear(), 3);
        for (int what = 0; what <= 3; what++) {
            CHECKS.due("count(" + what + ") after clear()", bench.count(what), 0);
        }
        CHECKS.due("the tape stays", bench.count(4), 5);
        CHECKS.due("clause(1, 6) after clear()", bench.clause(1, 6), CraigBench.NONE);
        CHECKS.due("refutation() after clear()", bench.refutation(), CraigBench.NONE);
        CHECKS.due("interpolate after clear()", bench.interpolate(1, 0), CraigBench.NONE);
        CHECKS.due("variables after clear()", bench.variables(1, 2), 0);
        CHECKS.due("label(4) after clear()", bench.label(4, 2), 2);
        CHECKS.due("label(5) after clear()", bench.label(5, 2), 2);
        CHECKS.due("read() after clear()", bench.read(), 1);
        CHECKS.due("clause(1, 0) of the new", bench.clause(1, 0), 3);
        CHECKS.due("clause(1, 6) of the new", bench.clause(1, 6), 0);
        CHECKS.due("clear() again", bench.clear(), 1);
        CHECKS.due("clear() of none", bench.clear(), 0);
    }

    private static void clause() {
        CraigBench bench = Checks.benchWith("c2:1 -10;c8:;c7:-1 3;r1 3 1;c1:-3;");
        int[][] want = {
            {2, 0, 0, 0, 513, 512, 0},
            {8, 0, 0, 0, 0, 0, 1},
            {7, 0, 0, 0, 5, 1, 0},
            {0, 1, 3, 1, 516, 512, 0},
            {1, 0, 0, 0, 4, 4, 0}};
        for (int i = 1; i <= want.length; i++) {
            for (int what = 0; what <= 6; what++) {
                CHECKS.due("clause(" + i + ", " + what + ")", bench.clause(i, what), want[i - 1][what]);
            }
            CHECKS.due("clause(" + i + ", 7)", bench.clause(i, 7), CraigBench.NONE);
            CHECKS.due("clause(" + i + ", -1)", bench.clause(i, -1), CraigBench.NONE);
        }
        for (int i : new int[] {0, -1, 6, 200, 201, Integer.MIN_VALUE, Integer.MAX_VALUE}) {
            for (int what = -1; what <= 7; what++) {
                CHECKS.due("clause(" + i + ", " + what + ")", bench.clause(i, what), CraigBench.NONE);
            }
        }
    }

    private static void refutation() {
        CraigBench bench = Checks.benchWith("c1:1;c1:-1 2;c2:-2;c2:5;r1 2 1;r5 3 2;r1 2 1;");
        CHECKS.due("refutation()", bench.refutation(), 6);
        int[] needed = {1, 1, 1, 0, 1, 1, 0};
        for (int i = 1; i <= 7; i++) {
            CHECKS.due("clause(" + i + ", 6)", bench.clause(i, 6), needed[i - 1]);
        }
        CHECKS.due("count(3)", bench.count(3), 5);
        Checks.readText(bench, "c1:;r1 2 1;r9 3 2;");
        CHECKS.due("refutation() stays", bench.refutation(), 6);
        CHECKS.due("clause(8, 6)", bench.clause(8, 6), 0);
        CHECKS.due("clause(10, 6)", bench.clause(10, 6), 0);
        CHECKS.due("count(3) stays", bench.count(3), 5);
        bench.clear();
        Checks.readText(bench, "c1:1;c4:;");
        CHECKS.due("a given refutation()", bench.refutation(), 2);
        CHECKS.due("count(3) of it", bench.count(3), 1);
        CHECKS.due("clause(1, 6) of it", bench.clause(1, 6), 0);
        CHECKS.due("clause(2, 6) of it", bench.clause(2, 6), 1);
    }

    private static void eliminate() {
        CraigBench bench = Checks.benchWith("c1:-1 5;c1:1 2;c2:1 3;c2:-1 4;c3:6;");
        CHECKS.due("eliminate(1)", bench.eliminate(1), 4);
        int[][] want = {{2, 1, 0b10010}, {2, 4, 0b1010}, {3, 1, 0b10100}, {3, 4, 0b1100}};
        for (int k = 0; k < 4; k++) {
            CHECKS.due("left of " + (6 + k), bench.clause(6 + k, 1), want[k][0]);
            CHECKS.due("right of " + (6 + k), bench.clause(6 + k, 2), want[k][1]);
            CHECKS.due("pivot of " + (6 + k), bench.clause(6 + k, 3), 1);
            CHECKS.due("block of " + (6 + k), bench.clause(6 + k, 0), 0);
            CHECKS.due("variables of " + (6 + k), bench.clause(6 + k, 4), want[k][2]);
            CHECKS.due("negated of " + (6 + k), bench.clause(6 + k, 5), 0);
        }
        CHECKS.due("count(0)", bench.count(0), 9);
        CHECKS.due("count(1)", bench.count(1), 5);
        CHECKS.due("count(2)", bench.count(2), 5);
        CHECKS.due("eliminate(1) again", bench.eliminate(1), 0);
        CHECKS.due("eliminate(6)", bench.eliminate(6), 0);
        CHECKS.due("count(2) without 6", bench.count(2), 4);
        CHECKS.due("eliminate(7) of nothing", bench.eliminate(7), 0);
        CHECKS.due("count(2) without 7", bench.count(2), 4);
        for (int v : new int[] {0, -1, 11, Integer.MIN_VALUE, Integer.MAX_VALUE}) {
            CHECKS.due("eliminate(" + v + ")", bench.eliminate(v), CraigBench.RANGE);
        }
        bench.clear();
        Checks.readText(bench, "c1:10;c1:-10;");
        CHECKS.due("eliminate(10)", bench.eliminate(10), 1);
        CHECKS.due("refutation()", bench.refutation(), 3);
        CHECKS.due("count(3)", bench.count(3), 3);
        CHECKS.due("count(2)", bench.count(2), 1);
    }

    private static void eliminateSkips() {
        CraigBench bench = Checks.benchWith("c1:1 2;c1:-1 -2;c1:1 3;c1:-1 4;c1:1 3;c1:2 4;c1:-2 3;");
        // 1 with 2 and the like would have 2 and -2; 1 with 4 is 6, 3 and 5 with 2 are 7, 5 with 4 is 3 with 4
        CHECKS.due("eliminate(1)", bench.eliminate(1), 1);
        CHECKS.due("clause(8, 1)", bench.clause(8, 1), 3);
        CHECKS.due("clause(8, 2)", bench.clause(8, 2), 4);
        CHECKS.due("count(2)", bench.count(2), 3);
        // A clause that isn't LIVE any more is still there.
        CraigBench other = Checks.benchWith("c1:3 5;c1:5;c1:-5;");
        CHECKS.due("eliminate(3)", other.eliminate(3), 0);
        CHECKS.due("count(2)", other.count(2), 2);
        Checks.readText(other, "c1:3 2;c1:5 -2;");
        CHECKS.due("eliminate(2): 3 5 is there", other.eliminate(2), 0);
        CHECKS.due("count(2) without 2", other.count(2), 2);
        CHECKS.due("eliminate(5): the first is not LIVE", other.eliminate(5), 1);
        CHECKS.due("refutation()", other.refutation(), 6);
    }

    private static void eliminateWithLaterClauses() {
        CraigBench bench = Checks.benchWith("c1:1 2;c1:-1 3;");
        CHECKS.due("eliminate(1)", bench.eliminate(1), 1);
        CHECKS.due("count(2)", bench.count(2), 1);
        Checks.readText(bench, "c2:-1;c2:1 4;");
        CHECKS.due("count(2) with later ones", bench.count(2), 3);
        CHECKS.due("eliminate(1) of the later ones", bench.eliminate(1), 1);
        CHECKS.due("clause(6, 1)", bench.clause(6, 1), 5);
        CHECKS.due("clause(6, 2)", bench.clause(6, 2), 4);
        CHECKS.due("count(2) at last", bench.count(2), 2);
        Checks.readText(bench, "r1 4 1;");
        CHECKS.due("a resolvent of clauses that are not LIVE is", bench.count(2), 3);
    }

    private static String literals(int bits, int first) {
        StringBuilder text = new StringBuilder();
        for (int k = 0; k < 4; k++) {
            if ((bits >> k & 1) != 0) {
                text.append(' ').append(first + k);
            }
        }
        return text.toString();
    }

    /** Twelve clauses with 1, twelve with -1, whose 144 resolvents are all new. */
    private static String twelveTimesTwelve() {
        StringBuilder text = new StringBuilder();
        for (int bits = 1; bits <= 12; bits++) {
            text.append("c1:1").append(literals(bits, 2)).append(';');
            text.append("c2:-1").append(literals(bits, 6)).append(';');
        }
        return text.toString();
    }

    private static void eliminateUntilFull() {
        CraigBench bench = Checks.benchWith(twelveTimesTwelve());
        Checks.readText(bench, "c3:10;".repeat(33));
        CHECKS.due("count(0)", bench.count(0), 57);
        CHECKS.due("eliminate(1) beyond 200", bench.eliminate(1), CraigBench.FULL);
        CHECKS.due("count(0) after FULL", bench.count(0), 57);
        CHECKS.due("count(2) after FULL", bench.count(2), 57);
        CHECKS.due("clause(58, 0) after FULL", bench.clause(58, 0), CraigBench.NONE);
        CHECKS.due("eliminate(1) once more", bench.eliminate(1), CraigBench.FULL);
        bench.clear();
        Checks.readText(bench, twelveTimesTwelve());
        Checks.readText(bench, "c3:10;".repeat(32));
        CHECKS.due("eliminate(1) up to 200", bench.eliminate(1), 144);
        CHECKS.due("count(0) at 200", bench.count(0), 200);
        CHECKS.due("count(2) at 200", bench.count(2), 176);
        CHECKS.due("clause(200, 0)", bench.clause(200, 0), 0);
        CHECKS.due("clause(200, 4)", bench.clause(200, 4), 12 << 1 | 12 << 5);
        CHECKS.due("eliminate(10) at 200", bench.eliminate(10), 0);
        CHECKS.due("count(2) without 10", bench.count(2), 144);
    }

    private static void label() {
        CraigBench bench = new CraigBench();
        for (int v = 1; v <= 10; v++) {
            CHECKS.due("label(" + v + ", 1)", bench.label(v, 1), 2);
            CHECKS.due("label(" + v + ", 3)", bench.label(v, 3), 1);
            CHECKS.due("label(" + v + ", 2)", bench.label(v, 2), 3);
            CHECKS.due("label(" + v + ", 0)", bench.label(v, 0), CraigBench.RANGE);
            CHECKS.due("label(" + v + ", 4)", bench.label(v, 4), CraigBench.RANGE);
            CHECKS.due("label(" + v + ", -1)", bench.label(v, -1), CraigBench.RANGE);
            CHECKS.due("label(" + v + ", 1) again", bench.label(v, 1), 2);
        }
        for (int v : new int[] {0, -1, 11, Integer.MIN_VALUE, Integer.MAX_VALUE}) {
            CHECKS.due("label(" + v + ", 1)", bench.label(v, 1), CraigBench.RANGE);
            CHECKS.due("label(" + v + ", 9)", bench.label(v, 9), CraigBench.RANGE);
        }
    }

    private static void variables() {
        CraigBench bench = Checks.benchWith("c1:1 -2;c3:2 3;c8:-3 10;c5:4;r2 3 3;");
        int[] ahead = {0b11, 0b11, 0b111, 0b111, 0b1111, 0b1111, 0b1111};
        int[] behind = {0b1000001110, 0b1000001110, 0b1000001100, 0b1000001100, 0b1000000100, 0b1000000100,
            0b1000000100};
        for (int cut = 1; cut <= 7; cut++) {
            CHECKS.due("variables(" + cut + ", 0)", bench.variables(cut, 0), ahead[cut - 1]);
            CHECKS.due("variables(" + cut + ", 1)", bench.variables(cut, 1), behind[cut - 1]);
            CHECKS.due("variables(" + cut + ", 2)", bench.variables(cut, 2), ahead[cut - 1] & behind[cut - 1]);
            CHECKS.due("variables(" + cut + ", 3)", bench.variables(cut, 3), CraigBench.NONE);
            CHECKS.due("variables(" + cut + ", -1)", bench.variables(cut, -1), CraigBench.NONE);
        }
        for (int cut : new int[] {0, -1, 8, Integer.MIN_VALUE, Integer.MAX_VALUE}) {
            for (int what = -1; what <= 3; what++) {
                CHECKS.due("variables(" + cut + ", " + what + ")", bench.variables(cut, what), CraigBench.RANGE);
            }
        }
    }

    private static void count() {
        CraigBench bench = Checks.benchWith("c1:1;c2:-1;c3:5;");
        Checks.feedText(bench, "r1 2 1;");
        int[] want = {3, 3, 3, 0, 7};
        for (int what = 0; what <= 4; what++) {
            CHECKS.due("count(" + what + ")", bench.count(what), want[what]);
        }
        bench.read();
        bench.eliminate(5);
        int[] then = {4, 3, 3, 3, 0};
        for (int what = 0; what <= 4; what++) {
            CHECKS.due("count(" + what + ") then", bench.count(what), then[what]);
        }
        for (int what : new int[] {-1, 5, Integer.MIN_VALUE, Integer.MAX_VALUE}) {
            CHECKS.due("count(" + what + ")", bench.count(what), CraigBench.NONE);
        }
    }
}
