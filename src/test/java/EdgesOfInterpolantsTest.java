/** Promises 12 to 18: a test for each sentence that names a boundary. */
final class EdgesOfInterpolantsTest {
    private static final Checks CHECKS = new Checks("EdgesOfInterpolantsTest");
    private static final int NONE = CraigBench.NONE;
    private static final int RANGE = CraigBench.RANGE;
    private static final int LEAST = Integer.MIN_VALUE;
    private static final int MOST = Integer.MAX_VALUE;
    private static final int FALSE_SIDE = -2;
    private static final int TRUE_SIDE = -3;
    private static final int[] BAD_CUTS = {0, 8, -1, LEAST, MOST};
    private static final int[] BAD_SYSTEMS = {-1, 4, LEAST, MOST};

    // By cut 1: McMillan comes to (2 and -3), Pudlak to -3, the inverse way to (-2 or -3).
    private static final String THREE_WAYS = "c1:1 -2;c1:-1 -3;c1:2;c2:-2 3;c2:2 4;c2:-4;"
        + "r1 2 1;r3 7 2;r5 4 2;r9 6 4;r10 8 3;";
    private static final String UNIT = "c1:1;c2:-1;r1 2 1;";

    public static void main(String[] args) {
        interpolateTells();
        interpolateOfEachCut();
        interpolateRange();
        interpolateWithout();
        valueOfTheLatest();
        valueNotRefused();
        valueNoneSuch();
        valueThereWasNone();
        partialLikewise();
        partialNoneSuch();
        partialNotNeeded();
        partialNotThere();
        toldHowMany();
        toldVariables();
        toldOtherWhat();
        toldThereWasNone();
        graphTells();
        graphNoneSuch();
        graphOtherWhat();
        followsOneOrNot();
        followsOfItself();
        followsRange();
        followsWithout();
        followsLeavesWhatWasTold();
        gapAhead();
        gapBehind();
        gapToTheNext();
        gapOfTheLastCut();
        gapRange();
        gapWithout();
        gapOtherWhat();
        CHECKS.finish();
    }

    private static void interpolateTells() {
        CHECKS.sentence("Promise 12: THE INTERPOLANT of a CUT by a system: how many nodes its GRAPH has");
        CraigBench bench = Checks.benchWith(THREE_WAYS);
        CHECKS.due("interpolate(1, 0)", bench.interpolate(1, 0), 2);
        CHECKS.due("interpolate(1, 1)", bench.interpolate(1, 1), 1);
        CHECKS.due("interpolate(1, 2)", bench.interpolate(1, 2), 2);
        CHECKS.due("interpolate(1, 3)", bench.interpolate(1, 3), 2);
        CHECKS.due("interpolate(2, 0)", bench.interpolate(2, 0), 0);
        // All ten VARIABLES: one node each
        CraigBench all = Checks.benchWith("c1:1 2 3 4 5 6 7 8 9 10;c2:-1;c2:-2;c2:-3;c2:-4;c2:-5;c2:-6;c2:-7;c2:-8;"
            + "c2:-9;c2:-10;r1 11 10;r12 10 9;r13 9 8;r14 8 7;r15 7 6;r16 6 5;r17 5 4;r18 4 3;r19 3 2;r20 2 1;");
        CHECKS.due("refutation()", all.refutation(), 21);
        for (int system = 0; system <= 2; system++) {
            CHECKS.due("interpolate(1, " + system + ")", all.interpolate(1, system), 10);
            CHECKS.due("told(0)", all.told(0), 1023);
        }
    }

    private static void interpolateOfEachCut() {
        CHECKS.sentence("Promise 12: of a CUT (the first, and the last)");
        // 1 in BLOCKS 1 and 2, 2 in 2 and 3, .. 7 in 7 and 8
        StringBuilder text = new StringBuilder("c1:1;");
        for (int block = 2; block <= 7; block++) {
            text.append("c" + block + ":-" + (block - 1) + " " + block + ";");
        }
        text.append("c8:-7;");
        for (int v = 1; v <= 7; v++) {
            text.append("r" + (v == 1 ? 1 : 7 + v) + " " + (v + 1) + " " + v + ";");
        }
        CraigBench bench = Checks.benchWith(text.toString());
        CHECKS.due("refutation()", bench.refutation(), 15);
        for (int cut = 1; cut <= 7; cut++) {
            for (int system = 0; system <= 3; system++) {
                CHECKS.due("interpolate(" + cut + ", " + system + ")", bench.interpolate(cut, system), 1);
                CHECKS.nodeDue(bench, 0, cut, FALSE_SIDE, TRUE_SIDE);
            }
        }
    }

    private static void interpolateRange() {
        CHECKS.sentence("Promise 12: RANGE");
        CraigBench bench = Checks.benchWith(UNIT);
        CraigBench without = Checks.benchWith("c1:1;");
        for (int cut : BAD_CUTS) {
            for (int system = -1; system <= 4; system++) {
                CHECKS.due("interpolate(" + cut + ", " + system + ")", bench.interpolate(cut, system), RANGE);
            }
            CHECKS.due("interpolate(" + cut + ", 0) without", without.interpolate(cut, 0), RANGE);
        }
        for (int system : BAD_SYSTEMS) {
            for (int cut = 0; cut <= 8; cut++) {
                CHECKS.due("interpolate(" + cut + ", " + system + ")", bench.interpolate(cut, system), RANGE);
            }
            CHECKS.due("interpolate(1, " + system + ") without", without.interpolate(1, system), RANGE);
        }
        CHECKS.due("told(0)", bench.told(0), NONE);
    }

    private static void interpolateWithout() {
        CHECKS.sentence("Promise 12: NONE without THE REFUTATION");
        for (int cut = 1; cut <= 7; cut++) {
            for (int system = 0; system <= 3; system++) {
                CHECKS.due("of none", new CraigBench().interpolate(cut, system), NONE);
                CHECKS.due("without", Checks.benchWith("c1:1;c2:-1;").interpolate(cut, system), NONE);
            }
        }
        CraigBench bench = Checks.benchWith(UNIT);
        CHECKS.due("interpolate(1, 0)", bench.interpolate(1, 0), 1);
        bench.clear();
        CHECKS.due("interpolate(1, 0) after clear()", bench.interpolate(1, 0), NONE);
    }

    private static void valueOfTheLatest() {
        CHECKS.sentence("Promise 13: Of what interpolate() told latest ..: 1 if it is true for a VALUATION, else 0");
        CraigBench bench = Checks.benchWith(THREE_WAYS);
        int[][] want = {{0, 0, 1, 0}, {1, 0, 1, 0}, {1, 1, 1, 0}};
        for (int system : new int[] {0, 1, 2, 1, 0, 2}) {
            bench.interpolate(1, system);
            CHECKS.due(system + ": value(0)", bench.value(0), want[system][0]);
            CHECKS.due(system + ": value(4)", bench.value(4), want[system][1]);
            CHECKS.due(system + ": value(2)", bench.value(2), want[system][2]);
            CHECKS.due(system + ": value(6)", bench.value(6), want[system][3]);
            // 2 true, 3 false, the last: all others true
            CHECKS.due(system + ": value(1019)", bench.value(1019), 1);
            CHECKS.due(system + ": value(1023)", bench.value(1023), 0);
        }
        // Whatever comes behind it
        bench.label(2, 1);
        bench.eliminate(1);
        Checks.readText(bench, "c1:;c7:8;");
        bench.clear();
        CHECKS.due("value(0)", bench.value(0), 1);
        CHECKS.due("value(6)", bench.value(6), 0);
    }

    private static void valueNotRefused() {
        CHECKS.sentence("Promise 13: (that was not refused)");
        CraigBench bench = Checks.benchWith(THREE_WAYS);
        bench.interpolate(1, 0);
        bench.interpolate(0, 1);
        bench.interpolate(8, 1);
        bench.interpolate(1, 4);
        CHECKS.due("value(0)", bench.value(0), 0);
        CHECKS.due("value(2)", bench.value(2), 1);
        bench.clear();
        CHECKS.due("interpolate(1, 1)", bench.interpolate(1, 1), NONE);
        CHECKS.due("value(0)", bench.value(0), 0);
        CHECKS.due("value(2)", bench.value(2), 1);
        CHECKS.due("partial(3, 2)", bench.partial(3, 2), 1);
        CHECKS.due("told(0)", bench.told(0), 256);
        CHECKS.nodeDue(bench, 0, 2, FALSE_SIDE, 1);
        // One that is not refused takes its place.
        CHECKS.readsOn(bench, "c1:;", 1);
        CHECKS.due("interpolate(1, 1)", bench.interpolate(1, 1), 0);
        CHECKS.due("value(2)", bench.value(2), 0);
    }

    private static void valueNoneSuch() {
        CHECKS.sentence("Promise 13: NONE when there is none such");
        CraigBench bench = Checks.benchWith("c2:;");
        bench.interpolate(1, 0);
        CHECKS.due("value(0)", bench.value(0), 1);
        CHECKS.due("value(1023)", bench.value(1023), 1);
        for (int valuation : new int[] {-1, 1024, 1025, 2047, LEAST, MOST}) {
            CHECKS.due("value(" + valuation + ")", bench.value(valuation), NONE);
        }
    }

    private static void valueThereWasNone() {
        CHECKS.sentence("Promise 13: NONE when .. there was none");
        CraigBench bench = Checks.benchWith(UNIT);
        CHECKS.due("value(0)", bench.value(0), NONE);
        bench.interpolate(0, 0);
        bench.follows(1, 0, 1);
        bench.gap(1, 0, 0);
        CHECKS.due("value(0)", bench.value(0), NONE);
        CHECKS.due("value(1023)", bench.value(1023), NONE);
        bench.interpolate(1, 0);
        CHECKS.due("value(0)", bench.value(0), 0);
        CHECKS.due("value(0) of another", new CraigBench().value(0), NONE);
    }

    private static void partialLikewise() {
        CHECKS.sentence("Promise 14: Likewise of the PARTIAL formula of a CLAUSE");
        CraigBench bench = Checks.benchWith(THREE_WAYS);
        bench.interpolate(1, 0);
        CHECKS.due("partial(1, 0)", bench.partial(1, 0), 1);
        CHECKS.due("partial(1, 2)", bench.partial(1, 2), 0);
        CHECKS.due("partial(11, 2)", bench.partial(11, 2), 1);
        CHECKS.due("partial(11, 1023)", bench.partial(11, 1023), 0);
        bench.interpolate(1, 2);
        CHECKS.due("partial(1, 0) of the latest", bench.partial(1, 0), 0);
        bench.interpolate(1, 4);
        CHECKS.due("partial(1, 0) behind a refused one", bench.partial(1, 0), 0);
        // THE REFUTATION's is THE INTERPOLANT: (-2 or -3). Not for every one: answers are promised for 512 calls.
        for (int valuation = 0; valuation < 1024; valuation += 5) {
            CHECKS.due("partial(11, " + valuation + ")", bench.partial(11, valuation), (valuation & 6) == 6 ? 0 : 1);
            CHECKS.due("value(" + valuation + ")", bench.value(valuation), (valuation & 6) == 6 ? 0 : 1);
        }
    }

    private static void partialNoneSuch() {
        CHECKS.sentence("Promise 14: Likewise (NONE when there is none such, or there was none)");
        CraigBench bench = Checks.benchWith(THREE_WAYS);
        CHECKS.due("partial(1, 0) ahead of any", bench.partial(1, 0), NONE);
        CHECKS.due("partial(11, 0) ahead of any", bench.partial(11, 0), NONE);
        bench.interpolate(1, 0);
        for (int valuation : new int[] {-1, 1024, LEAST, MOST}) {
            CHECKS.due("partial(1, " + valuation + ")", bench.partial(1, valuation), NONE);
            CHECKS.due("partial(11, " + valuation + ")", bench.partial(11, valuation), NONE);
        }
        for (int i : new int[] {0, -1, 12, 200, 201, LEAST, MOST}) {
            CHECKS.due("partial(" + i + ", 0)", bench.partial(i, 0), NONE);
            CHECKS.due("partial(" + i + ", 1024)", bench.partial(i, 1024), NONE);
        }
    }

    private static void partialNotNeeded() {
        CHECKS.sentence("Promise 14: NONE, too, when that wasn't needed");
        CraigBench bench = Checks.benchWith("c1:5;" + "c1:1;c2:-1;r2 3 1;r2 3 1;c1:;");
        CHECKS.due("interpolate(1, 0)", bench.interpolate(1, 0), 1);
        int[] needed = {0, 1, 1, 1, 0, 0};
        for (int i = 1; i <= 6; i++) {
            CHECKS.due("partial(" + i + ", 1)", bench.partial(i, 1), needed[i - 1] == 1 ? 1 : NONE);
        }
        // It was needed then, and is no more; and the other way round.
        bench.clear();
        CHECKS.readsOn(bench, "c1:;c1:1;", 2);
        CHECKS.due("partial(1, 1)", bench.partial(1, 1), NONE);
        CHECKS.due("partial(2, 1)", bench.partial(2, 1), 1);
        CHECKS.due("interpolate(1, 0)", bench.interpolate(1, 0), 0);
        CHECKS.due("partial(1, 1)", bench.partial(1, 1), 0);
        CHECKS.due("partial(2, 1)", bench.partial(2, 1), NONE);
    }

    private static void partialNotThere() {
        CHECKS.sentence("Promise 14: NONE .. or was not there");
        CraigBench bench = Checks.benchWith("c1:;");
        bench.interpolate(1, 0);
        CHECKS.due("partial(1, 0)", bench.partial(1, 0), 0);
        CHECKS.due("partial(2, 0)", bench.partial(2, 0), NONE);
        CHECKS.readsOn(bench, "c2:1;", 1);
        CHECKS.due("partial(2, 0) comes later", bench.partial(2, 0), NONE);
        bench.clear();
        CHECKS.readsOn(bench, UNIT, 3);
        CHECKS.due("partial(3, 0) comes later", bench.partial(3, 0), NONE);
        bench.interpolate(1, 0);
        CHECKS.due("partial(3, 1)", bench.partial(3, 1), 1);
        CHECKS.due("partial(4, 1)", bench.partial(4, 1), NONE);
        // The last that can be
        CraigBench full = Checks.benchWith("c1:1 2;c2:-1 2;c1:-2;" + "r1 2 1;".repeat(196) + "r199 3 2;");
        CHECKS.due("refutation()", full.refutation(), 200);
        full.interpolate(1, 2);
        // (1 and -2), the PARTIAL formula of 2 alone
        CHECKS.due("partial(200, 0)", full.partial(200, 0), 0);
        CHECKS.due("partial(200, 1)", full.partial(200, 1), 1);
        CHECKS.due("partial(199, 1)", full.partial(199, 1), 1);
        CHECKS.due("partial(198, 0)", full.partial(198, 0), NONE);
        CHECKS.due("partial(201, 0)", full.partial(201, 0), NONE);
    }

    private static void toldHowMany() {
        CHECKS.sentence("Promise 15: For how many VALUATIONS it is true, what 0");
        CraigBench bench = Checks.benchWith(THREE_WAYS);
        int[] want = {256, 512, 768, 256};
        for (int system = 0; system <= 3; system++) {
            bench.interpolate(1, system);
            CHECKS.due(system + ": told(0)", bench.told(0), want[system]);
        }
        CraigBench empty = Checks.benchWith("c4:;");
        empty.interpolate(3, 0);
        CHECKS.due("told(0) of TRUE", empty.told(0), 1024);
        empty.interpolate(4, 0);
        CHECKS.due("told(0) of FALSE", empty.told(0), 0);
        // For one alone: all ten are true
        CraigBench one = Checks.benchWith("c1:1;c1:2;c1:3;c1:4;c1:5;c1:6;c1:7;c1:8;c1:9;c1:10;"
            + "c2:-1 -2 -3 -4 -5 -6 -7 -8 -9 -10;r1 11 1;r2 12 2;r3 13 3;r4 14 4;r5 15 5;r6 16 6;r7 17 7;r8 18 8;"
            + "r9 19 9;r10 20 10;");
        CHECKS.due("interpolate(1, 0)", one.interpolate(1, 0), 10);
        CHECKS.due("told(0) of one", one.told(0), 1);
        CHECKS.due("value(1023)", one.value(1023), 1);
        CHECKS.due("value(1022)", one.value(1022), 0);
    }

    private static void toldVariables() {
        CHECKS.sentence("Promise 15: the VARIABLES on which it hangs, as bits, 1");
        CraigBench bench = Checks.benchWith(THREE_WAYS);
        int[] want = {0b110, 0b100, 0b110, 0b110};
        for (int system = 0; system <= 3; system++) {
            bench.interpolate(1, system);
            CHECKS.due(system + ": told(1)", bench.told(1), want[system]);
        }
        bench.interpolate(2, 0);
        CHECKS.due("told(1) of FALSE", bench.told(1), 0);
        for (int v = 1; v <= 10; v++) {
            CraigBench one = Checks.benchWith("c1:" + v + ";c2:-" + v + ";r1 2 " + v + ";");
            one.interpolate(1, 0);
            CHECKS.due("told(1) of " + v, one.told(1), 1 << (v - 1));
        }
        // SHARED, and spoken of, but it doesn't hang on it
        CraigBench other = Checks.benchWith("c1:1 2;c1:-1 2;c2:-2;c2:1;r1 2 1;r5 3 2;");
        other.interpolate(1, 0);
        CHECKS.due("variables(1, 2)", other.variables(1, 2), 0b11);
        CHECKS.due("told(1)", other.told(1), 0b10);
    }

    private static void toldOtherWhat() {
        CHECKS.sentence("Promise 15: NONE for another what");
        CraigBench bench = Checks.benchWith(UNIT);
        bench.interpolate(1, 0);
        for (int what : new int[] {-1, 2, 3, LEAST, MOST}) {
            CHECKS.due("told(" + what + ")", bench.told(what), NONE);
            CHECKS.due("told(" + what + ") of none", new CraigBench().told(what), NONE);
        }
    }

    private static void toldThereWasNone() {
        CHECKS.sentence("Promise 15: NONE .. when there was none");
        CraigBench bench = Checks.benchWith(UNIT);
        CHECKS.due("told(0)", bench.told(0), NONE);
        CHECKS.due("told(1)", bench.told(1), NONE);
        bench.interpolate(8, 0);
        CHECKS.due("told(0)", bench.told(0), NONE);
        CHECKS.due("told(1)", bench.told(1), NONE);
        // FALSE is one.
        bench.interpolate(7, 0);
        CHECKS.due("told(0)", bench.told(0), 0);
        CHECKS.due("told(1)", bench.told(1), 0);
        bench.clear();
        CHECKS.due("told(0) after clear()", bench.told(0), 0);
        CHECKS.due("told(1) after clear()", bench.told(1), 0);
    }

    private static void graphTells() {
        CHECKS.sentence("Promise 16: what 0: its VARIABLE, 1: its LOW, 2: its HIGH side: a node, or -2 FALSE, -3 TRUE");
        CraigBench bench = Checks.benchWith(THREE_WAYS);
        bench.interpolate(1, 0);
        CHECKS.nodeDue(bench, 0, 2, FALSE_SIDE, 1);
        CHECKS.nodeDue(bench, 1, 3, TRUE_SIDE, FALSE_SIDE);
        bench.interpolate(1, 1);
        CHECKS.nodeDue(bench, 0, 3, TRUE_SIDE, FALSE_SIDE);
        bench.interpolate(1, 2);
        CHECKS.nodeDue(bench, 0, 2, TRUE_SIDE, 1);
        CHECKS.nodeDue(bench, 1, 3, TRUE_SIDE, FALSE_SIDE);
    }

    private static void graphNoneSuch() {
        CHECKS.sentence("Promise 16: NONE when there is none such");
        CraigBench bench = Checks.benchWith(THREE_WAYS);
        for (int what = 0; what <= 2; what++) {
            CHECKS.due("graph(0, " + what + ") ahead of any", bench.graph(0, what), NONE);
        }
        bench.interpolate(1, 0);
        for (int i : new int[] {-1, -2, -3, 2, 3, 268, 269, 1023, LEAST, MOST}) {
            for (int what = 0; what <= 2; what++) {
                CHECKS.due("graph(" + i + ", " + what + ")", bench.graph(i, what), NONE);
            }
        }
        bench.interpolate(1, 1);
        CHECKS.due("graph(1, 0) of one node", bench.graph(1, 0), NONE);
        bench.interpolate(3, 1);
        CHECKS.due("graph(0, 0) of no node", bench.graph(0, 0), NONE);
    }

    private static void graphOtherWhat() {
        CHECKS.sentence("Promise 16: NONE .. for another what");
        CraigBench bench = Checks.benchWith(UNIT);
        bench.interpolate(1, 0);
        for (int what : new int[] {-1, 3, 4, LEAST, MOST}) {
            CHECKS.due("graph(0, " + what + ")", bench.graph(0, what), NONE);
            CHECKS.due("graph(1, " + what + ")", bench.graph(1, what), NONE);
        }
    }

    private static void followsOneOrNot() {
        CHECKS.sentence("Promise 17: 1 if THE INTERPOLANT of a CUT by system is true wherever that by other is; else 0");
        CraigBench bench = Checks.benchWith(THREE_WAYS);
        CHECKS.due("follows(1, 0, 1)", bench.follows(1, 0, 1), 1);
        CHECKS.due("follows(1, 0, 2)", bench.follows(1, 0, 2), 1);
        CHECKS.due("follows(1, 1, 2)", bench.follows(1, 1, 2), 1);
        CHECKS.due("follows(1, 1, 0)", bench.follows(1, 1, 0), 0);
        CHECKS.due("follows(1, 2, 0)", bench.follows(1, 2, 0), 0);
        CHECKS.due("follows(1, 2, 1)", bench.follows(1, 2, 1), 0);
        // By LABELS, told anew
        CHECKS.due("follows(1, 1, 3) at first", bench.follows(1, 1, 3), 0);
        bench.label(2, 1);
        bench.label(3, 1);
        CHECKS.due("follows(1, 1, 3)", bench.follows(1, 1, 3), 1);
        CHECKS.due("follows(1, 3, 1)", bench.follows(1, 3, 1), 0);
        // What tells them apart is so only when 7 to 10 are true, in the last VALUATIONS; or false, in the first.
        followsFarDue("c1:1 -2;c1:-1 -3;c1:2;c2:-2 3 -7 -8 -9 -10;c2:2 4;c2:-4;c1:7;c1:8;c1:9;c1:10;"
            + "r1 2 1;r3 11 2;r5 4 2;r13 6 4;r7 14 7;r8 15 8;r9 16 9;r10 17 10;r18 12 3;");
        followsFarDue("c1:1 -2;c1:-1 -3;c1:2;c2:-2 3 7 8 9 10;c2:2 4;c2:-4;c1:-7;c1:-8;c1:-9;c1:-10;"
            + "r1 2 1;r3 11 2;r5 4 2;r13 6 4;r14 7 7;r15 8 8;r16 9 9;r17 10 10;r18 12 3;");
    }

    private static void followsFarDue(String text) {
        CraigBench bench = Checks.benchWith(text);
        CHECKS.due("refutation()", bench.refutation(), 19);
        CHECKS.due("follows(1, 1, 0)", bench.follows(1, 1, 0), 0);
        CHECKS.due("follows(1, 0, 1)", bench.follows(1, 0, 1), 1);
    }

    private static void followsOfItself() {
        CHECKS.sentence("Promise 17: other (a system, too)");
        CraigBench bench = Checks.benchWith(THREE_WAYS);
        for (int cut = 1; cut <= 7; cut++) {
            for (int system = 0; system <= 3; system++) {
                CHECKS.due("follows(" + cut + ", " + system + ", same)", bench.follows(cut, system, system), 1);
            }
        }
        // Of cut 2 on all are FALSE.
        CHECKS.due("follows(2, 2, 0)", bench.follows(2, 2, 0), 1);
        CHECKS.due("follows(7, 2, 0)", bench.follows(7, 2, 0), 1);
    }

    private static void followsRange() {
        CHECKS.sentence("Promise 17: RANGE");
        CraigBench bench = Checks.benchWith(UNIT);
        CraigBench without = new CraigBench();
        for (int cut : BAD_CUTS) {
            CHECKS.due("follows(" + cut + ", 0, 0)", bench.follows(cut, 0, 0), RANGE);
            CHECKS.due("follows(" + cut + ", 0, 0) without", without.follows(cut, 0, 0), RANGE);
        }
        for (int bad : BAD_SYSTEMS) {
            CHECKS.due("follows(1, " + bad + ", 0)", bench.follows(1, bad, 0), RANGE);
            CHECKS.due("follows(1, 0, " + bad + ")", bench.follows(1, 0, bad), RANGE);
            CHECKS.due("follows(7, " + bad + ", " + bad + ")", bench.follows(7, bad, bad), RANGE);
            CHECKS.due("follows(1, " + bad + ", 0) without", without.follows(1, bad, 0), RANGE);
            CHECKS.due("follows(1, 0, " + bad + ") without", without.follows(1, 0, bad), RANGE);
        }
    }

    private static void followsWithout() {
        CHECKS.sentence("Promise 17: NONE without THE REFUTATION");
        CraigBench bench = Checks.benchWith(UNIT);
        bench.interpolate(1, 0);
        bench.clear();
        CraigBench other = Checks.benchWith("c1:1;c2:-1;");
        for (int cut = 1; cut <= 7; cut++) {
            CHECKS.due("follows(" + cut + ", 0, 3)", bench.follows(cut, 0, 3), NONE);
            CHECKS.due("follows(" + cut + ", 3, 0)", other.follows(cut, 3, 0), NONE);
            CHECKS.due("follows(" + cut + ", 1, 1)", new CraigBench().follows(cut, 1, 1), NONE);
        }
    }

    private static void followsLeavesWhatWasTold() {
        CHECKS.sentence("Promise 17: (What interpolate() told stays.)");
        CraigBench bench = Checks.benchWith(THREE_WAYS);
        bench.interpolate(1, 0);
        bench.follows(1, 1, 2);
        bench.follows(2, 1, 2);
        CHECKS.due("told(0)", bench.told(0), 256);
        CHECKS.due("told(1)", bench.told(1), 0b110);
        CHECKS.due("value(0)", bench.value(0), 0);
        CHECKS.due("value(2)", bench.value(2), 1);
        CHECKS.due("partial(1, 0)", bench.partial(1, 0), 1);
        CHECKS.due("partial(11, 2)", bench.partial(11, 2), 1);
        CHECKS.nodeDue(bench, 0, 2, FALSE_SIDE, 1);
        CHECKS.nodeDue(bench, 1, 3, TRUE_SIDE, FALSE_SIDE);
    }

    /** Unit after unit through the BLOCKS; every CUT has a formula of its own. */
    private static CraigBench chain() {
        CraigBench bench = Checks.benchWith("c1:1;c2:-1 2;c3:-2 3;c4:-3 4;c5:-4 5;c6:-5 6;c7:-6 7;c8:-7 8;c8:-8;"
            + "c1:9;c8:-10 9;");
        for (int v = 1; v <= 8; v++) {
            bench.eliminate(v);
        }
        return bench;
    }

    private static void gapDue(CraigBench bench, int what) {
        for (int cut = 1; cut <= 7; cut++) {
            for (int system = 0; system <= 3; system++) {
                CHECKS.due("gap(" + cut + ", " + system + ", " + what + ")", bench.gap(cut, system, what), 0);
            }
        }
    }

    private static void gapAhead() {
        CHECKS.sentence("Promise 18: what 0: all given CLAUSES of BLOCKS up to a CUT are true, and THE INTERPOLANT by a"
            + " system is not");
        gapDue(Checks.benchWith(THREE_WAYS), 0);
        gapDue(chain(), 0);
        gapDue(Checks.benchWith("c1:;"), 0);
        gapDue(Checks.benchWith("c8:;"), 0);
    }

    private static void gapBehind() {
        CHECKS.sentence("Promise 18: 1: those behind, and it is");
        gapDue(Checks.benchWith(THREE_WAYS), 1);
        gapDue(chain(), 1);
        gapDue(Checks.benchWith("c1:;"), 1);
        gapDue(Checks.benchWith("c8:;"), 1);
    }

    private static void gapToTheNext() {
        CHECKS.sentence("Promise 18: 2: it and all of BLOCK cut + 1 are, and that of the next CUT by the system .. is"
            + " not");
        CraigBench bench = Checks.benchWith(THREE_WAYS);
        bench.label(2, 3);
        bench.label(3, 1);
        gapDue(bench, 2);
        gapDue(chain(), 2);
        gapDue(Checks.benchWith("c1:;"), 2);
        gapDue(Checks.benchWith("c8:;"), 2);
    }

    private static void gapOfTheLastCut() {
        CHECKS.sentence("Promise 18: (of 7: FALSE)");
        CraigBench bench = Checks.benchWith("c7:1 2;c8:-1;c8:-2;r1 2 1;r4 3 2;");
        for (int system = 0; system <= 3; system++) {
            CHECKS.due("interpolate(7, " + system + ")", bench.interpolate(7, system), 2);
            CHECKS.due("gap(7, " + system + ", 2)", bench.gap(7, system, 2), 0);
        }
        // TRUE at cut 7, and BLOCK 8 alone is refuted
        CraigBench last = Checks.benchWith("c8:1;c8:-1;r1 2 1;");
        for (int system = 0; system <= 3; system++) {
            last.interpolate(7, system);
            CHECKS.due("told(0)", last.told(0), 1024);
            CHECKS.due("gap(7, " + system + ", 2)", last.gap(7, system, 2), 0);
        }
    }

    private static void gapRange() {
        CHECKS.sentence("Promise 18: RANGE");
        CraigBench bench = Checks.benchWith(UNIT);
        CraigBench without = new CraigBench();
        for (int what = -1; what <= 3; what++) {
            for (int cut : BAD_CUTS) {
                CHECKS.due("gap(" + cut + ", 0, " + what + ")", bench.gap(cut, 0, what), RANGE);
                CHECKS.due("gap(" + cut + ", 0, " + what + ") without", without.gap(cut, 0, what), RANGE);
            }
            for (int bad : BAD_SYSTEMS) {
                CHECKS.due("gap(1, " + bad + ", " + what + ")", bench.gap(1, bad, what), RANGE);
                CHECKS.due("gap(7, " + bad + ", " + what + ") without", without.gap(7, bad, what), RANGE);
            }
        }
    }

    private static void gapWithout() {
        CHECKS.sentence("Promise 18: NONE without THE REFUTATION");
        CraigBench bench = Checks.benchWith(UNIT);
        bench.interpolate(1, 0);
        bench.clear();
        CraigBench other = Checks.benchWith("c1:1;c2:-1;");
        for (int cut = 1; cut <= 7; cut++) {
            for (int what = 0; what <= 2; what++) {
                CHECKS.due("gap(" + cut + ", 0, " + what + ")", bench.gap(cut, 0, what), NONE);
                CHECKS.due("gap(" + cut + ", 3, " + what + ")", other.gap(cut, 3, what), NONE);
            }
        }
    }

    private static void gapOtherWhat() {
        CHECKS.sentence("Promise 18: NONE .. for another what");
        CraigBench bench = Checks.benchWith(UNIT);
        CraigBench without = new CraigBench();
        for (int what : new int[] {-1, 3, 4, LEAST, MOST}) {
            CHECKS.due("gap(1, 0, " + what + ")", bench.gap(1, 0, what), NONE);
            CHECKS.due("gap(7, 3, " + what + ")", bench.gap(7, 3, what), NONE);
            CHECKS.due("gap(1, 0, " + what + ") without", without.gap(1, 0, what), NONE);
        }
        // gap() leaves what interpolate() told, too: it tells nothing itself.
        bench.interpolate(1, 0);
        for (int what = 0; what <= 3; what++) {
            bench.gap(2, 2, what);
        }
        CHECKS.due("told(0)", bench.told(0), 512);
        CHECKS.due("partial(1, 1)", bench.partial(1, 1), 1);
        CHECKS.nodeDue(bench, 0, 1, FALSE_SIDE, TRUE_SIDE);
    }
}
