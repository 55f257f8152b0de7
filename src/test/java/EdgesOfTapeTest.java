/** The document's head, its constants, and promises 1 to 5: a test for each sentence that names a boundary. */
final class EdgesOfTapeTest {
    private static final Checks CHECKS = new Checks("EdgesOfTapeTest");
    private static final int NONE = CraigBench.NONE;
    private static final int BLANKS = 0x20202020;
    private static final int[] FAR = {Integer.MIN_VALUE, Integer.MAX_VALUE};

    public static void main(String[] args) {
        callsPerObject();
        constants();
        newObjectHasNoClauses();
        newObjectHasAnEmptyTape();
        objectsAreApart();
        feedTwentyBytes();
        feedHighestFirst();
        feedTells();
        feedFull();
        feedFullLeavesTheTape();
        endKeepsTheFirst();
        endTells();
        endWithoutSoMany();
        endBelowZero();
        readOfAnEmptyTape();
        readEmptiesTheTape();
        readComesBehind();
        readTells();
        readWithAFault();
        faultOfTheLatest();
        faultKindWithout();
        faultPlaceWithout();
        faultOtherWhat();
        CHECKS.finish();
    }

    private static int feedBlanks(CraigBench bench) {
        return bench.feed(BLANKS, BLANKS, BLANKS, BLANKS, BLANKS);
    }

    private static CraigBench benchWithBlanks(int bytes) {
        CraigBench bench = new CraigBench();
        Checks.feedText(bench, " ".repeat(bytes));
        return bench;
    }

    private static void callsPerObject() {
        CHECKS.sentence("An object is used for at most 512 calls after it has been made");
        CraigBench bench = new CraigBench();
        CHECKS.due("feed", bench.feed(0x63313A31, 0x3B63323A, 0x2D313B72, 0x20312032, 0x20313B20), 20);
        CHECKS.due("read()", bench.read(), 3);
        for (int call = 3; call <= 508; call++) {
            CHECKS.due("interpolate as call " + call, bench.interpolate(call % 2 + 1, call % 4), 1 - call % 2);
        }
        CHECKS.due("call 509", bench.interpolate(1, 0), 1);
        CHECKS.due("call 510", bench.value(1), 1);
        CHECKS.due("call 511", bench.graph(0, 0), 1);
        CHECKS.due("call 512", bench.count(0), 3);
        // What later calls answer is free, but they come back.
        for (int call = 513; call <= 3000; call++) {
            feedBlanks(bench);
            bench.read();
            bench.interpolate(call % 9, call % 5);
            bench.eliminate(call % 12);
        }
        CHECKS.holds("calls behind the 512th come back", true);
    }

    private static void constants() {
        CHECKS.sentence("The constants");
        CHECKS.due("NONE", CraigBench.NONE, -1);
        CHECKS.due("RANGE", CraigBench.RANGE, -2);
        CHECKS.due("FULL", CraigBench.FULL, -3);
    }

    private static void newObjectHasNoClauses() {
        CHECKS.sentence("Promise 1: No CLAUSES");
        CraigBench bench = new CraigBench();
        for (int what = 0; what <= 3; what++) {
            CHECKS.due("count(" + what + ")", bench.count(what), 0);
        }
        for (int i : new int[] {-1, 0, 1, 200}) {
            for (int what = 0; what <= 6; what++) {
                CHECKS.due("clause(" + i + ", " + what + ")", bench.clause(i, what), NONE);
            }
        }
        CHECKS.due("refutation()", bench.refutation(), NONE);
        CHECKS.due("clear()", bench.clear(), 0);
        for (int v = 1; v <= 10; v++) {
            CHECKS.due("eliminate(" + v + ")", bench.eliminate(v), 0);
        }
        for (int cut = 1; cut <= 7; cut++) {
            for (int what = 0; what <= 2; what++) {
                CHECKS.due("variables(" + cut + ", " + what + ")", bench.variables(cut, what), 0);
            }
        }
    }

    private static void newObjectHasAnEmptyTape() {
        CHECKS.sentence("Promise 1: an empty tape");
        CHECKS.due("count(4)", new CraigBench().count(4), 0);
        CHECKS.due("end(0)", new CraigBench().end(0), 0);
        CHECKS.due("end(1)", new CraigBench().end(1), NONE);
        CHECKS.due("read()", new CraigBench().read(), 0);
        CHECKS.due("feed", feedBlanks(new CraigBench()), 20);
    }

    private static void objectsAreApart() {
        CHECKS.sentence("Promise 1: A new object (beside one that is in use)");
        CraigBench used = Checks.benchWith("c1:1;c2:-1;r1 2 1;");
        used.label(1, 1);
        used.interpolate(1, 0);
        Checks.feedText(used, "x");
        CraigBench bench = new CraigBench();
        CHECKS.due("count(0)", bench.count(0), 0);
        CHECKS.due("count(4)", bench.count(4), 0);
        CHECKS.due("told(0)", bench.told(0), NONE);
        CHECKS.due("label(1, 2)", bench.label(1, 2), 2);
        CHECKS.due("read()", bench.read(), 0);
        CHECKS.due("count(0) of the other", used.count(0), 3);
        CHECKS.due("count(4) of the other", used.count(4), 1);
        CHECKS.due("label(1, 2) of the other", used.label(1, 2), 1);
        CHECKS.due("told(0) of the other", used.told(0), 512);
    }

    private static void feedTwentyBytes() {
        CHECKS.sentence("Promise 2: Twenty bytes come behind THE TAPE");
        CraigBench bench = new CraigBench();
        CHECKS.due("feed", feedBlanks(bench), 20);
        CHECKS.due("end(7)", bench.end(7), 7);
        CHECKS.due("feed behind 7", bench.feed(0x78202020, BLANKS, BLANKS, BLANKS, BLANKS), 27);
        CHECKS.due("read()", bench.read(), NONE);
        CHECKS.due("fault(1)", bench.fault(1), 7);
        // Each of the twenty, in its own place
        for (int place = 0; place < 20; place++) {
            CraigBench one = new CraigBench();
            int[] four = {BLANKS, BLANKS, BLANKS, BLANKS, BLANKS};
            four[place / 4] ^= (' ' ^ 'x') << (24 - 8 * (place % 4));
            CHECKS.due("feed with x at " + place, one.feed(four[0], four[1], four[2], four[3], four[4]), 20);
            CHECKS.due("read()", one.read(), NONE);
            CHECKS.due("fault(1)", one.fault(1), place);
        }
    }

    private static void feedHighestFirst() {
        CHECKS.sentence("Promise 2: the highest of each int first");
        CraigBench bench = new CraigBench();
        // "c3:1", " -2 ", "5 -6", " 10 ", ";   "
        CHECKS.due("feed", bench.feed(0x63333A31, 0x202D3220, 0x35202D36, 0x20313020, 0x3B202020), 20);
        CHECKS.due("read()", bench.read(), 1);
        CHECKS.clauseDue(bench, 1, 3, 0, 0, 0, 0b1000110011, 0b0000100010);
        // A byte above 127 is itself, not below 0: 0x80 + ' ' is no blank.
        CraigBench high = new CraigBench();
        CHECKS.due("feed of -1", high.feed(-1, -1, -1, -1, -1), 20);
        CHECKS.due("read()", high.read(), NONE);
        CHECKS.due("fault(0)", high.fault(0), 1);
        CHECKS.due("fault(1)", high.fault(1), 0);
        CHECKS.due("feed of 0xA0", high.feed(0x2020A020, BLANKS, BLANKS, BLANKS, BLANKS), 20);
        CHECKS.due("read()", high.read(), NONE);
        CHECKS.due("fault(1)", high.fault(1), 2);
    }

    private static void feedTells() {
        CHECKS.sentence("Promise 2: how many it has");
        CraigBench bench = new CraigBench();
        for (int times = 1; times <= 100; times++) {
            CHECKS.due("feed " + times, feedBlanks(bench), 20 * times);
            CHECKS.due("count(4)", bench.count(4), 20 * times);
        }
        CraigBench odd = benchWithBlanks(3);
        CHECKS.due("feed behind 3", feedBlanks(odd), 23);
    }

    private static void feedFull() {
        CHECKS.sentence("Promise 2: FULL when there would be more than 2000");
        CHECKS.due("feed at 1979", feedBlanks(benchWithBlanks(1979)), 1999);
        CHECKS.due("feed at 1980", feedBlanks(benchWithBlanks(1980)), 2000);
        for (int bytes = 1981; bytes <= 2000; bytes++) {
            CHECKS.due("feed at " + bytes, feedBlanks(benchWithBlanks(bytes)), CraigBench.FULL);
        }
    }

    private static void feedFullLeavesTheTape() {
        CHECKS.sentence("Promise 2: FULL (a refused call leaves THE TAPE)");
        CraigBench bench = benchWithBlanks(1981);
        int x = 0x78787878;
        CHECKS.due("feed", bench.feed(x, x, x, x, x), CraigBench.FULL);
        CHECKS.due("count(4)", bench.count(4), 1981);
        CHECKS.due("read()", bench.read(), 0);
        CraigBench full = benchWithBlanks(2000);
        CHECKS.due("feed", full.feed(x, x, x, x, x), CraigBench.FULL);
        CHECKS.due("feed again", full.feed(x, x, x, x, x), CraigBench.FULL);
        CHECKS.due("count(4)", full.count(4), 2000);
        CHECKS.due("end(1980)", full.end(1980), 1980);
        CHECKS.due("feed with room", feedBlanks(full), 2000);
        CHECKS.due("read()", full.read(), 0);
    }

    private static void endKeepsTheFirst() {
        CHECKS.sentence("Promise 3: THE TAPE has its first n bytes alone");
        CraigBench bench = new CraigBench();
        Checks.feedText(bench, "c1:1;c2:2;c3:3;");
        CHECKS.due("end(10)", bench.end(10), 10);
        CHECKS.due("count(4)", bench.count(4), 10);
        CHECKS.due("end(15)", bench.end(15), NONE);
        CHECKS.due("read()", bench.read(), 2);
        CHECKS.due("clause(2, 0)", bench.clause(2, 0), 2);
        // What comes then is behind the first n: the others are gone.
        CraigBench other = new CraigBench();
        Checks.feedText(other, "c1:1;xxxxxxxxxxxxxxx");
        CHECKS.due("end(5)", other.end(5), 5);
        CHECKS.due("feed", feedBlanks(other), 25);
        CHECKS.due("read()", other.read(), 1);
        // None of them
        CraigBench none = new CraigBench();
        Checks.feedText(none, "x");
        CHECKS.due("end(0)", none.end(0), 0);
        CHECKS.due("read()", none.read(), 0);
        CHECKS.due("fault(0)", none.fault(0), 0);
    }

    private static void endTells() {
        CHECKS.sentence("Promise 3: n");
        CraigBench bench = benchWithBlanks(2000);
        for (int n : new int[] {2000, 1999, 21, 20, 1, 0, 0}) {
            CHECKS.due("end(" + n + ")", bench.end(n), n);
            CHECKS.due("count(4)", bench.count(4), n);
        }
    }

    private static void endWithoutSoMany() {
        CHECKS.sentence("Promise 3: NONE when it has not so many");
        CraigBench bench = benchWithBlanks(20);
        for (int n : new int[] {21, 40, 2000, 2001, Integer.MAX_VALUE}) {
            CHECKS.due("end(" + n + ")", bench.end(n), NONE);
            CHECKS.due("count(4)", bench.count(4), 20);
        }
        CHECKS.due("end(20)", bench.end(20), 20);
        CraigBench full = benchWithBlanks(2000);
        CHECKS.due("end(2001)", full.end(2001), NONE);
        CHECKS.due("count(4)", full.count(4), 2000);
        CHECKS.due("end(2000)", full.end(2000), 2000);
    }

    private static void endBelowZero() {
        CHECKS.sentence("Promise 3: NONE when .. n is below 0");
        CraigBench bench = new CraigBench();
        Checks.feedText(bench, "c1:1;");
        for (int n : new int[] {-1, -2, -3, Integer.MIN_VALUE}) {
            CHECKS.due("end(" + n + ")", bench.end(n), NONE);
            CHECKS.due("count(4)", bench.count(4), 5);
        }
        CHECKS.due("read()", bench.read(), 1);
        CHECKS.due("end(-1) of none", new CraigBench().end(-1), NONE);
    }

    private static void readOfAnEmptyTape() {
        CHECKS.sentence("Promise 4: THE TAPE .. is a text (also an empty one)");
        CraigBench bench = new CraigBench();
        CHECKS.due("read()", bench.read(), 0);
        CHECKS.due("fault(0)", bench.fault(0), 0);
        CHECKS.due("read() again", bench.read(), 0);
        CHECKS.due("count(0)", bench.count(0), 0);
        CHECKS.readsOn(bench, "c1:1;", 1);
        CHECKS.due("read() of none", bench.read(), 0);
        CHECKS.due("count(0)", bench.count(0), 1);
        CHECKS.reads(" ".repeat(2000), 0);
    }

    private static void readEmptiesTheTape() {
        CHECKS.sentence("Promise 4: THE TAPE (empty then)");
        CraigBench bench = new CraigBench();
        Checks.feedText(bench, "c1:1;");
        CHECKS.due("read()", bench.read(), 1);
        CHECKS.due("count(4)", bench.count(4), 0);
        CHECKS.due("end(1)", bench.end(1), NONE);
        CHECKS.due("read() again", bench.read(), 0);
        CHECKS.due("feed", feedBlanks(bench), 20);
        bench.end(0);
        // With a FAULT, too
        Checks.feedText(bench, "c1:2;x");
        CHECKS.due("read() of x", bench.read(), NONE);
        CHECKS.due("count(4)", bench.count(4), 0);
        CHECKS.due("read() again", bench.read(), 0);
        CHECKS.due("feed", feedBlanks(bench), 20);
        // A full one has room again.
        CraigBench full = benchWithBlanks(2000);
        CHECKS.due("read()", full.read(), 0);
        CHECKS.due("feed", feedBlanks(full), 20);
    }

    private static void readComesBehind() {
        CHECKS.sentence("Promise 4: CLAUSES come behind those that there are");
        CraigBench bench = Checks.benchWith("c1:1;c2:2;");
        CHECKS.readsOn(bench, "c3:3;", 1);
        CHECKS.due("clause(1, 0)", bench.clause(1, 0), 1);
        CHECKS.due("clause(2, 0)", bench.clause(2, 0), 2);
        CHECKS.due("clause(3, 0)", bench.clause(3, 0), 3);
        CHECKS.readsOn(bench, "c4:-3;r3 4 3;", 2);
        CHECKS.clauseDue(bench, 5, 0, 3, 4, 3, 0, 0);
    }

    private static void readTells() {
        CHECKS.sentence("Promise 4: how many come");
        CraigBench bench = new CraigBench();
        CHECKS.readsOn(bench, "", 0);
        CHECKS.readsOn(bench, "c1:1;", 1);
        CHECKS.readsOn(bench, "c1:-1;r1 2 1;", 2);
        CHECKS.readsOn(bench, "c1:1;".repeat(58), 58);
        CHECKS.readsOn(bench, "r1 2 1;".repeat(139), 139);
        CHECKS.due("count(0)", bench.count(0), 200);
        CHECKS.readsOn(bench, " ", 0);
    }

    private static void readWithAFault() {
        CHECKS.sentence("Promise 4: NONE with a FAULT");
        CraigBench bench = Checks.benchWith("c1:1;");
        CHECKS.due("read()", Checks.readText(bench, "c2:;c2:-1;r1 3 1;c2:5 x"), NONE);
        CHECKS.due("count(0)", bench.count(0), 1);
        CHECKS.due("count(1)", bench.count(1), 1);
        CHECKS.due("count(2)", bench.count(2), 1);
        CHECKS.due("count(3)", bench.count(3), 0);
        CHECKS.due("clause(2, 0)", bench.clause(2, 0), NONE);
        CHECKS.due("refutation()", bench.refutation(), NONE);
        CHECKS.due("interpolate(1, 0)", bench.interpolate(1, 0), NONE);
        CHECKS.due("variables(1, 1)", bench.variables(1, 1), 0);
        CHECKS.due("eliminate(1)", bench.eliminate(1), 0);
        // The room that it would have taken is there.
        CraigBench room = new CraigBench();
        CHECKS.due("read() of 61", Checks.readText(room, "c1:1;".repeat(61)), NONE);
        CHECKS.due("read() of 60", Checks.readText(room, "c1:1;".repeat(60)), 60);
    }

    private static void faultOfTheLatest() {
        CHECKS.sentence("Promise 5: Of the latest read(): its FAULT's KIND (what 0 ..), its PLACE (1 ..)");
        CraigBench bench = new CraigBench();
        CHECKS.failsOn(bench, "x", 1, 0);
        CHECKS.failsOn(bench, "c9", 2, 1);
        CHECKS.failsOn(bench, "c1:1 -1;", 3, 6);
        CHECKS.failsOn(bench, "c1:1;r1 1 1;", 4, 10);
        CHECKS.failsOn(bench, "c1:1 2;c1:-1 -2;r1 2 1;", 5, 21);
        CHECKS.failsOn(bench, "c1:1;".repeat(61), 6, 300);
        // No other call changes it.
        feedBlanks(bench);
        bench.end(30);
        bench.end(3);
        bench.clear();
        bench.eliminate(0);
        bench.eliminate(1);
        bench.interpolate(1, 0);
        CHECKS.due("fault(0)", bench.fault(0), 6);
        CHECKS.due("fault(1)", bench.fault(1), 300);
    }

    private static void faultKindWithout() {
        CHECKS.sentence("Promise 5: KIND (.. 0 without, and ahead of any)");
        CraigBench bench = new CraigBench();
        CHECKS.due("fault(0) ahead of any", bench.fault(0), 0);
        Checks.feedText(bench, "x");
        CHECKS.due("fault(0) with a tape", bench.fault(0), 0);
        bench.read();
        CHECKS.due("fault(0) of x", bench.fault(0), 1);
        bench.read();
        CHECKS.due("fault(0) of none", bench.fault(0), 0);
        CHECKS.failsOn(bench, "c0", 2, 1);
        CHECKS.readsOn(bench, "c1:1;", 1);
        CHECKS.due("fault(0) without", bench.fault(0), 0);
    }

    private static void faultPlaceWithout() {
        CHECKS.sentence("Promise 5: PLACE (.. NONE without)");
        CraigBench bench = new CraigBench();
        CHECKS.due("fault(1) ahead of any", bench.fault(1), NONE);
        CHECKS.failsOn(bench, "x", 1, 0);
        bench.read();
        CHECKS.due("fault(1) of none", bench.fault(1), NONE);
        CHECKS.failsOn(bench, "c0", 2, 1);
        CHECKS.readsOn(bench, "c1:1;", 1);
        CHECKS.due("fault(1) without", bench.fault(1), NONE);
    }

    private static void faultOtherWhat() {
        CHECKS.sentence("Promise 5: NONE for another what");
        CraigBench bench = Checks.benchWith("c1:1 1");
        for (int what : new int[] {-1, 2, 3, FAR[0], FAR[1]}) {
            CHECKS.due("fault(" + what + ")", bench.fault(what), NONE);
            CHECKS.due("fault(" + what + ") ahead of any", new CraigBench().fault(what), NONE);
        }
    }
}
