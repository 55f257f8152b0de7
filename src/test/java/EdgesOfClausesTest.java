/** Promises 6 to 11 and 19: a test for each sentence that names a boundary. */
final class EdgesOfClausesTest {
    private static final Checks CHECKS = new Checks("EdgesOfClausesTest");
    private static final int NONE = CraigBench.NONE;
    private static final int RANGE = CraigBench.RANGE;
    private static final int FULL = CraigBench.FULL;
    private static final int LEAST = Integer.MIN_VALUE;
    private static final int MOST = Integer.MAX_VALUE;
    private static final String REFUTED = "c1:1;c2:-1 2;c3:-2;c3:7;r1 2 1;r5 3 2;";

    public static void main(String[] args) {
        clearLeavesNoClauses();
        clearResetsLabels();
        clearTells();
        clearLeavesTheRest();
        clauseBlock();
        clauseParents();
        clauseVariables();
        clauseNegated();
        clauseNeeded();
        clauseNoneSuch();
        clauseOtherWhat();
        refutationNumber();
        refutationWithout();
        eliminateRising();
        eliminateLiveOnes();
        eliminateOpposites();
        eliminateSameSet();
        eliminateSameSetOfThisCall();
        eliminateRetires();
        eliminateLeavesOthers();
        eliminateLaterOnes();
        eliminateTells();
        eliminateRange();
        eliminateFull();
        eliminateFullAndNothingHappens();
        eliminateAt200();
        labelSets();
        labelTells();
        labelRange();
        variablesWhats();
        variablesRange();
        variablesOtherWhat();
        countClauses();
        countGiven();
        countLive();
        countNeeded();
        countBytes();
        countOtherWhat();
        CHECKS.finish();
    }

    private static void clearLeavesNoClauses() {
        CHECKS.sentence("Promise 6: There are no CLAUSES");
        CraigBench bench = Checks.benchWith(REFUTED);
        bench.clear();
        for (int what = 0; what <= 3; what++) {
            CHECKS.due("count(" + what + ")", bench.count(what), 0);
        }
        for (int i = 0; i <= 7; i++) {
            CHECKS.due("clause(" + i + ", 0)", bench.clause(i, 0), NONE);
            CHECKS.due("clause(" + i + ", 6)", bench.clause(i, 6), NONE);
        }
        CHECKS.due("refutation()", bench.refutation(), NONE);
        CHECKS.due("interpolate(1, 0)", bench.interpolate(1, 0), NONE);
        CHECKS.due("follows(1, 0, 0)", bench.follows(1, 0, 0), NONE);
        CHECKS.due("gap(1, 0, 0)", bench.gap(1, 0, 0), NONE);
        CHECKS.due("variables(1, 0)", bench.variables(1, 0), 0);
        CHECKS.due("variables(1, 1)", bench.variables(1, 1), 0);
        CHECKS.due("eliminate(1)", bench.eliminate(1), 0);
        // Of the old ones nothing is left in the new: the room, the numbers, what was needed, what was not LIVE.
        CraigBench full = Checks.benchWith("c1:1;".repeat(59) + "c1:-1;");
        full.eliminate(1);
        CHECKS.due("clear()", full.clear(), 61);
        CHECKS.readsOn(full, "c2:1;".repeat(59) + "c3:-1;", 60);
        CHECKS.due("clause(1, 0)", full.clause(1, 0), 2);
        CHECKS.due("clause(1, 6)", full.clause(1, 6), 0);
        CHECKS.due("clause(61, 0)", full.clause(61, 0), NONE);
        CHECKS.due("count(2)", full.count(2), 60);
        CHECKS.due("count(3)", full.count(3), 0);
        CHECKS.due("refutation()", full.refutation(), NONE);
        CHECKS.due("eliminate(1)", full.eliminate(1), 1);
        CHECKS.due("refutation()", full.refutation(), 61);
    }

    private static void clearResetsLabels() {
        CHECKS.sentence("Promise 6: the LABELS are b again");
        CraigBench bench = new CraigBench();
        for (int v = 1; v <= 10; v++) {
            bench.label(v, v % 2 == 0 ? 1 : 3);
        }
        bench.clear();
        for (int v = 1; v <= 10; v++) {
            CHECKS.due("label(" + v + ", 1)", bench.label(v, 1), 2);
        }
    }

    private static void clearTells() {
        CHECKS.sentence("Promise 6: how many there were");
        CraigBench bench = new CraigBench();
        CHECKS.due("clear() of none", bench.clear(), 0);
        Checks.readText(bench, "c1:1;");
        CHECKS.due("clear() of one", bench.clear(), 1);
        CHECKS.due("clear() again", bench.clear(), 0);
        Checks.readText(bench, "c1:1;c1:-1;" + "r1 2 1;".repeat(198));
        CHECKS.due("clear() of all", bench.clear(), 200);
        Checks.readText(bench, "c1:1 2;c1:-1;");
        bench.eliminate(1);
        CHECKS.due("clear() with those not LIVE", bench.clear(), 3);
    }

    private static void clearLeavesTheRest() {
        CHECKS.sentence("Promise 6: (THE TAPE, the FAULT and what interpolate() told are not spoken of)");
        CraigBench bench = Checks.benchWith(REFUTED);
        bench.interpolate(1, 0);
        CHECKS.failsOn(bench, "c1:1;x", 1, 5);
        Checks.feedText(bench, "c7:7;");
        bench.clear();
        CHECKS.due("count(4)", bench.count(4), 5);
        CHECKS.due("fault(0)", bench.fault(0), 1);
        CHECKS.due("fault(1)", bench.fault(1), 5);
        CHECKS.due("told(0)", bench.told(0), 512);
        CHECKS.due("value(1)", bench.value(1), 1);
        CHECKS.due("partial(1, 1)", bench.partial(1, 1), 1);
        CHECKS.due("graph(0, 0)", bench.graph(0, 0), 1);
        CHECKS.due("read()", bench.read(), 1);
        CHECKS.due("clause(1, 0)", bench.clause(1, 0), 7);
    }

    private static void clauseBlock() {
        CHECKS.sentence("Promise 7: what 0: its BLOCK, 0 of a RESOLVENT");
        CraigBench bench = Checks.benchWith("c1:1;c8:-1;r1 2 1;");
        CHECKS.due("clause(1, 0)", bench.clause(1, 0), 1);
        CHECKS.due("clause(2, 0)", bench.clause(2, 0), 8);
        CHECKS.due("clause(3, 0)", bench.clause(3, 0), 0);
        CraigBench other = Checks.benchWith("c5:1 2;c5:-1;");
        other.eliminate(1);
        CHECKS.due("clause(3, 0) by eliminate()", other.clause(3, 0), 0);
        // A RESOLVENT where a given CLAUSE was, and the other way round
        CraigBench again = Checks.benchWith("c6:1;c6:2;c6:3;");
        again.clear();
        CHECKS.readsOn(again, "c1:1;c8:-1;r1 2 1;", 3);
        CHECKS.due("clause(3, 0) in the place of a given one", again.clause(3, 0), 0);
        again.clear();
        CHECKS.readsOn(again, "c1:1;c8:-1;c7:;", 3);
        CHECKS.due("clause(3, 0) in the place of a RESOLVENT", again.clause(3, 0), 7);
    }

    private static void clauseParents() {
        CHECKS.sentence("Promise 7: 1, 2: its PARENTS, 3: on which VARIABLE (0 each of a given one)");
        CraigBench bench = Checks.benchWith("c1:-10 1;c8:10;r2 1 10;c2:;");
        CHECKS.clauseDue(bench, 1, 1, 0, 0, 0);
        CHECKS.clauseDue(bench, 2, 8, 0, 0, 0);
        CHECKS.clauseDue(bench, 3, 0, 2, 1, 10);
        CHECKS.clauseDue(bench, 4, 2, 0, 0, 0);
        CHECKS.due("eliminate(10)", bench.eliminate(10), 0);
        // A given CLAUSE where a RESOLVENT was
        bench.clear();
        CHECKS.readsOn(bench, "c1:1;c1:2;c3:3;", 3);
        CHECKS.clauseDue(bench, 3, 3, 0, 0, 0, 4, 0);
        // And a RESOLVENT where a given one was
        bench.clear();
        CHECKS.readsOn(bench, "c1:1;c1:-1 4;r1 2 1;", 3);
        CHECKS.clauseDue(bench, 3, 0, 1, 2, 1, 8, 0);
    }

    private static void clauseVariables() {
        CHECKS.sentence("Promise 7: 4: its VARIABLES .. as bits");
        CraigBench bench = Checks.benchWith("c1:;c1:1;c1:-10;c1:1 -2 3 -4 5 -6 7 -8 9 -10;");
        CHECKS.due("clause(1, 4)", bench.clause(1, 4), 0);
        CHECKS.due("clause(2, 4)", bench.clause(2, 4), 1);
        CHECKS.due("clause(3, 4)", bench.clause(3, 4), 512);
        CHECKS.due("clause(4, 4)", bench.clause(4, 4), 1023);
    }

    private static void clauseNegated() {
        CHECKS.sentence("Promise 7: 5: those with - ahead, as bits");
        CraigBench bench = Checks.benchWith("c1:;c1:1;c1:-10;c1:1 -2 3 -4 5 -6 7 -8 9 -10;");
        CHECKS.due("clause(1, 5)", bench.clause(1, 5), 0);
        CHECKS.due("clause(2, 5)", bench.clause(2, 5), 0);
        CHECKS.due("clause(3, 5)", bench.clause(3, 5), 512);
        CHECKS.due("clause(4, 5)", bench.clause(4, 5), 0b1010101010);
    }

    private static void clauseNeeded() {
        CHECKS.sentence("Promise 7: 6: 1 if THE REFUTATION needs it, else 0");
        CraigBench bench = Checks.benchWith("c1:1;c2:-1 2;c3:-2;c3:7;r1 2 1;");
        for (int i = 1; i <= 5; i++) {
            CHECKS.due("clause(" + i + ", 6) without", bench.clause(i, 6), 0);
        }
        CHECKS.readsOn(bench, "r5 3 2;r1 2 1;", 2);
        int[] want = {1, 1, 1, 0, 1, 1, 0};
        for (int i = 1; i <= 7; i++) {
            CHECKS.due("clause(" + i + ", 6)", bench.clause(i, 6), want[i - 1]);
        }
    }

    private static void clauseNoneSuch() {
        CHECKS.sentence("Promise 7: NONE when there is none such");
        CraigBench bench = Checks.benchWith(REFUTED);
        for (int i : new int[] {0, -1, 7, 199, 200, 201, LEAST, MOST}) {
            for (int what = 0; what <= 6; what++) {
                CHECKS.due("clause(" + i + ", " + what + ")", bench.clause(i, what), NONE);
            }
        }
        CraigBench full = Checks.benchWith("c1:1;c1:-1;" + "r1 2 1;".repeat(198));
        CHECKS.clauseDue(full, 200, 0, 1, 2, 1, 0, 0, 0);
        for (int what = 0; what <= 6; what++) {
            CHECKS.due("clause(201, " + what + ")", full.clause(201, what), NONE);
            CHECKS.due("clause(0, " + what + ")", full.clause(0, what), NONE);
        }
    }

    private static void clauseOtherWhat() {
        CHECKS.sentence("Promise 7: NONE .. for another what");
        CraigBench bench = Checks.benchWith(REFUTED);
        for (int what : new int[] {-1, 7, 8, LEAST, MOST}) {
            CHECKS.due("clause(1, " + what + ")", bench.clause(1, what), NONE);
            CHECKS.due("clause(6, " + what + ")", bench.clause(6, what), NONE);
            CHECKS.due("clause(0, " + what + ")", bench.clause(0, what), NONE);
        }
    }

    private static void refutationNumber() {
        CHECKS.sentence("Promise 8: THE REFUTATION's number");
        CHECKS.due("refutation()", Checks.benchWith("c1:;").refutation(), 1);
        CHECKS.due("refutation()", Checks.benchWith(REFUTED).refutation(), 6);
        CHECKS.due("refutation()", Checks.benchWith(REFUTED + "c1:;").refutation(), 6);
        CraigBench bench = Checks.benchWith("c1:1 2;c1:-1 2;c1:-2;" + "r1 2 1;".repeat(196));
        CHECKS.due("refutation()", bench.refutation(), NONE);
        CHECKS.readsOn(bench, "r4 3 2;", 1);
        CHECKS.due("refutation() of the last", bench.refutation(), 200);
    }

    private static void refutationWithout() {
        CHECKS.sentence("Promise 8: NONE without");
        CraigBench bench = new CraigBench();
        CHECKS.due("refutation() of none", bench.refutation(), NONE);
        CHECKS.readsOn(bench, "c1:1;c2:-1;", 2);
        CHECKS.due("refutation() ahead of it", bench.refutation(), NONE);
        CHECKS.due("read() with a FAULT", Checks.readText(bench, "c1:;x"), NONE);
        CHECKS.due("refutation() of a FAULT", bench.refutation(), NONE);
        CHECKS.readsOn(bench, "r1 2 1;", 1);
        CHECKS.due("refutation()", bench.refutation(), 3);
        bench.clear();
        CHECKS.due("refutation() after clear()", bench.refutation(), NONE);
    }

    private static void eliminateRising() {
        CHECKS.sentence("Promise 9: for each i, and for each j, that are LIVE, both rising, i with v, j with -v");
        CraigBench bench = Checks.benchWith("c1:-1 5;c1:1 2;c2:1 3;c2:-1 4;");
        CHECKS.due("eliminate(1)", bench.eliminate(1), 4);
        CHECKS.clauseDue(bench, 5, 0, 2, 1, 1, 0b10010, 0);
        CHECKS.clauseDue(bench, 6, 0, 2, 4, 1, 0b01010, 0);
        CHECKS.clauseDue(bench, 7, 0, 3, 1, 1, 0b10100, 0);
        CHECKS.clauseDue(bench, 8, 0, 3, 4, 1, 0b01100, 0);
        // The first and the last VARIABLE, and CLAUSES at both ends
        CraigBench last = Checks.benchWith("c1:10;c1:5;c1:-10;");
        CHECKS.due("eliminate(10)", last.eliminate(10), 1);
        CHECKS.clauseDue(last, 4, 0, 1, 3, 10, 0, 0);
    }

    private static void eliminateLiveOnes() {
        CHECKS.sentence("Promise 9: that are LIVE");
        CraigBench bench = Checks.benchWith("c1:1 2;c1:-1 3;c1:-2;");
        CHECKS.due("eliminate(1)", bench.eliminate(1), 1);
        // 1 has 2, too, but is not LIVE: 4 alone has it.
        CHECKS.due("eliminate(2)", bench.eliminate(2), 1);
        CHECKS.clauseDue(bench, 5, 0, 4, 3, 2, 0b100, 0);
        // j that is not LIVE
        CraigBench other = Checks.benchWith("c1:1 -2;c1:2 4;");
        CHECKS.due("eliminate(1)", other.eliminate(1), 0);
        CHECKS.due("eliminate(2)", other.eliminate(2), 0);
        CHECKS.due("count(0)", other.count(0), 2);
    }

    private static void eliminateOpposites() {
        CHECKS.sentence("Promise 9: THE RESOLVENT comes, unless it would have a LITERAL and its opposite");
        CraigBench bench = Checks.benchWith("c1:1 2;c1:-1 -2;c1:1 -10;c1:-1 10;c1:-1 -10;");
        // 1 with 2 and 3 with 4 would; 1 with 4, 1 with 5, 3 with 2, 3 with 5 come
        CHECKS.due("eliminate(1)", bench.eliminate(1), 4);
        CHECKS.clauseDue(bench, 6, 0, 1, 4, 1, 0b1000000010, 0);
        CHECKS.clauseDue(bench, 7, 0, 1, 5, 1, 0b1000000010, 0b1000000000);
        CHECKS.clauseDue(bench, 8, 0, 3, 2, 1, 0b1000000010, 0b1000000010);
        CHECKS.clauseDue(bench, 9, 0, 3, 5, 1, 0b1000000000, 0b1000000000);
        CraigBench none = Checks.benchWith("c1:1 2;c1:-1 -2;");
        CHECKS.due("eliminate(1) of opposites alone", none.eliminate(1), 0);
        CHECKS.due("count(0)", none.count(0), 2);
        CHECKS.due("count(2)", none.count(2), 0);
    }

    private static void eliminateSameSet() {
        CHECKS.sentence("Promise 9: unless it .. is the same set as a CLAUSE that is there");
        CraigBench bench = Checks.benchWith("c1:1 2;c1:-1 3;c8:3 2;");
        CHECKS.due("eliminate(1)", bench.eliminate(1), 0);
        CHECKS.due("count(0)", bench.count(0), 3);
        // The same VARIABLES are not the same set, nor is one that has more, or fewer.
        CraigBench signs = Checks.benchWith("c1:1 2;c1:-1 3;c1:2 -3;c1:-2 3;c1:2;c1:3;c1:2 3 4;");
        CHECKS.due("eliminate(1)", signs.eliminate(1), 1);
        CHECKS.clauseDue(signs, 8, 0, 1, 2, 1, 0b110, 0);
        // It is there though it isn't LIVE.
        CraigBench dead = Checks.benchWith("c1:2 3;c1:1 2;c1:-1 3;");
        CHECKS.due("eliminate(2)", dead.eliminate(2), 0);
        CHECKS.due("count(2)", dead.count(2), 1);
        CHECKS.readsOn(dead, "c1:1 2;", 1);
        CHECKS.due("eliminate(1)", dead.eliminate(1), 0);
        CHECKS.due("count(0)", dead.count(0), 4);
        // A CLAUSE without LITERALS is there.
        CraigBench empty = Checks.benchWith("c1:1;c1:-1;c1:;");
        CHECKS.due("eliminate(1)", empty.eliminate(1), 0);
        CHECKS.due("refutation()", empty.refutation(), 3);
    }

    private static void eliminateSameSetOfThisCall() {
        CHECKS.sentence("Promise 9: (also of those that have come so)");
        CraigBench bench = Checks.benchWith("c1:1 2;c1:1 2;c1:-1 3;c1:-1 3;c1:1 3;c1:-1 2;");
        // 1 with 3 comes; 1 with 4, 2 with 3, 2 with 4 and 5 with 6 are the same; then 1 with 6 and 5 with 3
        CHECKS.due("eliminate(1)", bench.eliminate(1), 3);
        CHECKS.clauseDue(bench, 7, 0, 1, 3, 1, 0b110, 0);
        CHECKS.clauseDue(bench, 8, 0, 1, 6, 1, 0b010, 0);
        CHECKS.clauseDue(bench, 9, 0, 5, 3, 1, 0b100, 0);
        // One that came by an eliminate() ahead
        CraigBench other = Checks.benchWith("c1:1 5;c1:-1 6;c1:2 5;c1:-2 6;");
        CHECKS.due("eliminate(1)", other.eliminate(1), 1);
        CHECKS.due("eliminate(2)", other.eliminate(2), 0);
    }

    private static void eliminateRetires() {
        CHECKS.sentence("Promise 9: Then CLAUSES with v or -v are not LIVE any more");
        CraigBench bench = Checks.benchWith("c1:1;c1:-1 2;c1:-2;c1:1 10;");
        CHECKS.due("eliminate(1)", bench.eliminate(1), 2);
        CHECKS.due("count(2)", bench.count(2), 3);
        // Without any of the other side none comes, but they are not LIVE all the same.
        CHECKS.due("eliminate(10)", bench.eliminate(10), 0);
        CHECKS.due("count(2)", bench.count(2), 2);
        CHECKS.due("eliminate(1) again", bench.eliminate(1), 0);
        CHECKS.due("count(2)", bench.count(2), 2);
        CraigBench negative = Checks.benchWith("c1:-3;c1:4;");
        CHECKS.due("eliminate(3)", negative.eliminate(3), 0);
        CHECKS.due("count(2)", negative.count(2), 1);
        // They are there all the same, and not LIVE for good.
        CHECKS.clauseDue(negative, 1, 1, 0, 0, 0, 4, 4);
        CHECKS.due("eliminate(5)", negative.eliminate(5), 0);
        CHECKS.readsOn(negative, "", 0);
        CHECKS.due("count(2)", negative.count(2), 1);
        // A read() may still resolve them.
        CHECKS.readsOn(negative, "c1:3;r3 1 3;", 2);
        CHECKS.due("refutation()", negative.refutation(), 4);
    }

    private static void eliminateLeavesOthers() {
        CHECKS.sentence("Promise 9: others are");
        CraigBench bench = Checks.benchWith("c1:2;c1:;c1:3 -4;");
        CHECKS.due("eliminate(1) of nothing", bench.eliminate(1), 0);
        CHECKS.due("count(2)", bench.count(2), 3);
        CHECKS.due("eliminate(2)", bench.eliminate(2), 0);
        CHECKS.due("count(2)", bench.count(2), 2);
        CHECKS.due("eliminate(4)", bench.eliminate(4), 0);
        CHECKS.due("count(2) of the empty one", bench.count(2), 1);
    }

    private static void eliminateLaterOnes() {
        CHECKS.sentence("Promise 9: (also those that come later)");
        CraigBench bench = Checks.benchWith("c1:1 2;c1:-1 3;");
        CHECKS.due("eliminate(1)", bench.eliminate(1), 1);
        CHECKS.due("count(2) of the RESOLVENT", bench.count(2), 1);
        CHECKS.readsOn(bench, "c1:4;c1:1 5;c1:-1 6;r1 2 1;", 4);
        CHECKS.due("count(2)", bench.count(2), 5);
        CHECKS.due("eliminate(1)", bench.eliminate(1), 1);
        CHECKS.clauseDue(bench, 8, 0, 5, 6, 1, 0b110000, 0);
        CHECKS.due("count(2)", bench.count(2), 4);
    }

    private static void eliminateTells() {
        CHECKS.sentence("Promise 9: How many come");
        CraigBench bench = Checks.benchWith("c1:1;c1:-1;c1:2 3;c1:-2 4;c1:-2 5;");
        CHECKS.due("eliminate(6)", bench.eliminate(6), 0);
        CHECKS.due("eliminate(1)", bench.eliminate(1), 1);
        CHECKS.due("eliminate(2)", bench.eliminate(2), 2);
        CHECKS.due("count(0)", bench.count(0), 8);
        CHECKS.due("count(1)", bench.count(1), 5);
        CHECKS.due("of none", new CraigBench().eliminate(1), 0);
    }

    private static void eliminateRange() {
        CHECKS.sentence("Promise 9: RANGE");
        CraigBench bench = Checks.benchWith("c1:1;c1:-1;c1:10;c1:-10;");
        for (int v : new int[] {0, 11, -1, -10, 32, 33, LEAST, MOST}) {
            CHECKS.due("eliminate(" + v + ")", bench.eliminate(v), RANGE);
            CHECKS.due("count(0)", bench.count(0), 4);
            CHECKS.due("count(2)", bench.count(2), 4);
            CHECKS.due("eliminate(" + v + ") of none", new CraigBench().eliminate(v), RANGE);
        }
        CHECKS.due("eliminate(1)", bench.eliminate(1), 1);
        CHECKS.due("eliminate(10)", bench.eliminate(10), 0);
    }

    private static String positives(int bits, int first) {
        StringBuilder text = new StringBuilder();
        for (int k = 0; k < 4; k++) {
            text.append((bits >> k & 1) == 0 ? "" : " " + (first + k));
        }
        return text.toString();
    }

    /** Twelve CLAUSES with 1, twelve with -1, whose 144 RESOLVENTS are all new; and so many more with 10. */
    private static CraigBench twelveTimesTwelve(int more) {
        StringBuilder text = new StringBuilder();
        for (int bits = 1; bits <= 12; bits++) {
            text.append("c1:1").append(positives(bits, 2)).append(';');
            text.append("c2:-1").append(positives(bits, 6)).append(';');
        }
        CraigBench bench = Checks.benchWith(text.toString());
        Checks.readText(bench, "c3:10;".repeat(more));
        return bench;
    }

    private static void eliminateFull() {
        CHECKS.sentence("Promise 9: FULL .. when there would be more than 200");
        CraigBench at199 = twelveTimesTwelve(31);
        CHECKS.due("eliminate(1) up to 199", at199.eliminate(1), 144);
        CHECKS.due("count(0)", at199.count(0), 199);
        CraigBench at200 = twelveTimesTwelve(32);
        CHECKS.due("eliminate(1) up to 200", at200.eliminate(1), 144);
        CHECKS.due("count(0)", at200.count(0), 200);
        CHECKS.clauseDue(at200, 200, 0, 23, 24, 1, 12 << 1 | 12 << 5, 0);
        CraigBench at201 = twelveTimesTwelve(33);
        CHECKS.due("eliminate(1) up to 201", at201.eliminate(1), FULL);
        CHECKS.due("count(0)", at201.count(0), 57);
    }

    private static void eliminateFullAndNothingHappens() {
        CHECKS.sentence("Promise 9: FULL, and nothing happens");
        CraigBench bench = twelveTimesTwelve(34);
        Checks.readText(bench, "c4:9;c4:-9;");
        Checks.feedText(bench, "c1:3;");
        CHECKS.due("eliminate(1)", bench.eliminate(1), FULL);
        CHECKS.due("count(0)", bench.count(0), 60);
        CHECKS.due("count(1)", bench.count(1), 60);
        CHECKS.due("count(2)", bench.count(2), 60);
        CHECKS.due("count(3)", bench.count(3), 0);
        CHECKS.due("count(4)", bench.count(4), 5);
        CHECKS.due("clause(61, 0)", bench.clause(61, 0), NONE);
        CHECKS.due("refutation()", bench.refutation(), NONE);
        CHECKS.due("eliminate(1) again", bench.eliminate(1), FULL);
        bench.end(0);
        // -1 and the empty one are new; what else would come is there.
        CHECKS.due("eliminate(9) has room", bench.eliminate(9), 2);
        // The empty one would be among those that don't come.
        CraigBench empty = twelveTimesTwelve(32);
        Checks.readText(empty, "c5:1;c5:-1;");
        CHECKS.due("eliminate(1) with an empty one", empty.eliminate(1), FULL);
        CHECKS.due("refutation()", empty.refutation(), NONE);
        CHECKS.due("count(3)", empty.count(3), 0);
        CHECKS.due("clause(58, 6)", empty.clause(58, 6), 0);
        CHECKS.readsOn(empty, "r57 58 1;", 1);
        CHECKS.due("refutation()", empty.refutation(), 59);
    }

    private static void eliminateAt200() {
        CHECKS.sentence("Promise 9: FULL .. (not when none would come to 200)");
        CraigBench bench = Checks.benchWith("c1:1;c1:-1;c1:2 3;c1:-2 -3;c1:4 5;c1:-4;c1:5;c1:6;c1:-6 7;");
        Checks.readText(bench, "r1 2 1;".repeat(191));
        CHECKS.due("count(0)", bench.count(0), 200);
        CHECKS.due("eliminate(1): the same is there", bench.eliminate(1), 0);
        CHECKS.due("eliminate(2): opposites", bench.eliminate(2), 0);
        CHECKS.due("eliminate(4): the same is there", bench.eliminate(4), 0);
        CHECKS.due("eliminate(10): none", bench.eliminate(10), 0);
        CHECKS.due("count(2)", bench.count(2), 194);
        CHECKS.due("eliminate(6): one more", bench.eliminate(6), FULL);
        CHECKS.due("count(2)", bench.count(2), 194);
        CHECKS.due("count(0)", bench.count(0), 200);
    }

    private static void labelSets() {
        CHECKS.sentence("Promise 10: The LABEL of VARIABLE v for LABELS is 1 a, 2 b, 3 ab");
        CraigBench bench = Checks.benchWith("c1:1;c2:-1;r1 2 1;");
        for (int l = 1; l <= 3; l++) {
            bench.label(1, l);
            CHECKS.due("interpolate(1, 3)", bench.interpolate(1, 3), 1);
            // By b the CLAUSE ahead tells of 1, by a the one behind, by ab neither.
            CHECKS.due(l + ": partial(1, 1)", bench.partial(1, 1), l == 2 ? 1 : 0);
            CHECKS.due(l + ": partial(1, 0)", bench.partial(1, 0), 0);
            CHECKS.due(l + ": partial(2, 0)", bench.partial(2, 0), l == 1 ? 0 : 1);
            CHECKS.due(l + ": partial(2, 1)", bench.partial(2, 1), 1);
            CHECKS.due(l + ": value(1)", bench.value(1), 1);
            CHECKS.due(l + ": value(0)", bench.value(0), 0);
        }
        // Only that one's
        for (int v = 2; v <= 10; v++) {
            CHECKS.due("label(" + v + ", 2)", bench.label(v, 2), 2);
        }
    }

    private static void labelTells() {
        CHECKS.sentence("Promise 10: what it was");
        CraigBench bench = new CraigBench();
        for (int v : new int[] {1, 10}) {
            int was = 2;
            for (int l : new int[] {2, 1, 1, 3, 3, 2, 3, 1, 2}) {
                CHECKS.due("label(" + v + ", " + l + ")", bench.label(v, l), was);
                was = l;
            }
        }
    }

    private static void labelRange() {
        CHECKS.sentence("Promise 10: RANGE");
        CraigBench bench = new CraigBench();
        bench.label(1, 3);
        bench.label(10, 1);
        for (int v : new int[] {0, 11, -1, LEAST, MOST}) {
            for (int l : new int[] {0, 1, 2, 3, 4}) {
                CHECKS.due("label(" + v + ", " + l + ")", bench.label(v, l), RANGE);
            }
        }
        for (int l : new int[] {0, 4, -1, LEAST, MOST}) {
            CHECKS.due("label(1, " + l + ")", bench.label(1, l), RANGE);
            CHECKS.due("label(10, " + l + ")", bench.label(10, l), RANGE);
        }
        // A refused call leaves the LABEL.
        CHECKS.due("label(1, 2)", bench.label(1, 2), 3);
        CHECKS.due("label(10, 2)", bench.label(10, 2), 1);
    }

    private static void variablesWhats() {
        CHECKS.sentence("Promise 11: as bits, what 0: VARIABLES that are AHEAD, 1: BEHIND, 2: SHARED");
        CraigBench bench = Checks.benchWith("c1:1 -2;c7:2 9;c8:-9 10;");
        int[][] want = {{0b11, 0b1100000010, 0b10}, {0b100000011, 0b1100000000, 0b100000000}};
        for (int what = 0; what <= 2; what++) {
            CHECKS.due("variables(1, " + what + ")", bench.variables(1, what), want[0][what]);
            CHECKS.due("variables(6, " + what + ")", bench.variables(6, what), want[0][what]);
            CHECKS.due("variables(7, " + what + ")", bench.variables(7, what), want[1][what]);
            CHECKS.due("variables(7, " + what + ") of none", new CraigBench().variables(7, what), 0);
        }
        CraigBench all = Checks.benchWith("c1:1 2 3 4 5 6 7 8 9 10;c8:-1 -2 -3 -4 -5 -6 -7 -8 -9 -10;");
        for (int what = 0; what <= 2; what++) {
            CHECKS.due("variables(4, " + what + ") of all", all.variables(4, what), 1023);
        }
    }

    private static void variablesRange() {
        CHECKS.sentence("Promise 11: RANGE for a CUT");
        CraigBench bench = Checks.benchWith("c1:1;c8:1;");
        for (int cut : new int[] {0, 8, -1, LEAST, MOST}) {
            for (int what = -1; what <= 3; what++) {
                CHECKS.due("variables(" + cut + ", " + what + ")", bench.variables(cut, what), RANGE);
            }
        }
        CHECKS.due("variables(1, 0)", bench.variables(1, 0), 1);
        CHECKS.due("variables(7, 1)", bench.variables(7, 1), 1);
    }

    private static void variablesOtherWhat() {
        CHECKS.sentence("Promise 11: NONE for another what");
        CraigBench bench = Checks.benchWith("c1:1;c8:1;");
        for (int cut = 1; cut <= 7; cut++) {
            for (int what : new int[] {-1, 3, LEAST, MOST}) {
                CHECKS.due("variables(" + cut + ", " + what + ")", bench.variables(cut, what), NONE);
            }
        }
    }

    private static void countClauses() {
        CHECKS.sentence("Promise 19: What 0: CLAUSES");
        CraigBench bench = new CraigBench();
        CHECKS.due("count(0) of none", bench.count(0), 0);
        CHECKS.readsOn(bench, "c1:1;c1:-1 2;r1 2 1;", 3);
        CHECKS.due("count(0)", bench.count(0), 3);
        bench.eliminate(1);
        CHECKS.due("count(0) with those not LIVE", bench.count(0), 3);
        CHECKS.due("count(0) of all", Checks.benchWith("c1:1;c1:-1;" + "r1 2 1;".repeat(198)).count(0), 200);
    }

    private static void countGiven() {
        CHECKS.sentence("Promise 19: 1: given ones");
        CraigBench bench = new CraigBench();
        CHECKS.due("count(1) of none", bench.count(1), 0);
        CHECKS.readsOn(bench, "c1:1;c1:-1 2;r1 2 1;c1:;", 4);
        CHECKS.due("count(1)", bench.count(1), 3);
        bench.eliminate(1);
        CHECKS.due("count(1) with those not LIVE", bench.count(1), 3);
        CHECKS.due("count(1) of 60", Checks.benchWith("c1:1;".repeat(60)).count(1), 60);
    }

    private static void countLive() {
        CHECKS.sentence("Promise 19: 2: LIVE ones");
        CraigBench bench = new CraigBench();
        CHECKS.due("count(2) of none", bench.count(2), 0);
        CHECKS.readsOn(bench, "c1:1;c1:-1 2;r1 2 1;c1:5;", 4);
        CHECKS.due("count(2)", bench.count(2), 4);
        bench.eliminate(1);
        CHECKS.due("count(2) without 1", bench.count(2), 2);
        bench.eliminate(2);
        bench.eliminate(5);
        CHECKS.due("count(2) without any", bench.count(2), 0);
        CHECKS.due("count(2) of all", Checks.benchWith("c1:1;c1:-1;" + "r1 2 1;".repeat(198)).count(2), 200);
    }

    private static void countNeeded() {
        CHECKS.sentence("Promise 19: 3: those that THE REFUTATION needs (0)");
        CHECKS.due("count(3) of none", new CraigBench().count(3), 0);
        CHECKS.due("count(3) without", Checks.benchWith("c1:1;c1:-1;").count(3), 0);
        CHECKS.due("count(3) of a given one", Checks.benchWith("c1:1;c1:;c1:-1;").count(3), 1);
        CHECKS.due("count(3)", Checks.benchWith(REFUTED).count(3), 5);
        CHECKS.due("count(3) with more", Checks.benchWith(REFUTED + "r5 3 2;c1:;").count(3), 5);
        CraigBench bench = Checks.benchWith(REFUTED);
        bench.clear();
        CHECKS.due("count(3) after clear()", bench.count(3), 0);
    }

    private static void countBytes() {
        CHECKS.sentence("Promise 19: 4: bytes of THE TAPE");
        CraigBench bench = new CraigBench();
        CHECKS.due("count(4) of none", bench.count(4), 0);
        bench.feed(0, 0, 0, 0, 0);
        CHECKS.due("count(4)", bench.count(4), 20);
        bench.end(1);
        CHECKS.due("count(4) after end(1)", bench.count(4), 1);
        bench.read();
        CHECKS.due("count(4) after read()", bench.count(4), 0);
        CraigBench full = new CraigBench();
        Checks.feedText(full, "\0".repeat(2000));
        CHECKS.due("count(4) of all", full.count(4), 2000);
    }

    private static void countOtherWhat() {
        CHECKS.sentence("Promise 19: NONE for another what");
        CraigBench bench = Checks.benchWith(REFUTED);
        for (int what : new int[] {-1, 5, 6, LEAST, MOST}) {
            CHECKS.due("count(" + what + ")", bench.count(what), NONE);
            CHECKS.due("count(" + what + ") of none", new CraigBench().count(what), NONE);
        }
    }
}
