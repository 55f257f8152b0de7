/** Term I of the document, CLAUSES: a test for each of its sentences that names a boundary. */
final class EdgesOfTextsTest {
    private static final Checks CHECKS = new Checks("EdgesOfTextsTest");
    private static final int SYNTAX = 1;
    private static final int RANGE = 2;
    private static final int TWICE = 3;
    private static final int PIVOT = 4;
    private static final int BOTH = 5;
    private static final int ROOM = 6;
    // The clauses 1 and -1, eleven bytes.
    private static final String TWO = "c1:1;c1:-1;";

    public static void main(String[] args) {
        variables();
        literals();
        sets();
        numbers();
        mostClauses();
        mostGiven();
        blocks();
        resolvents();
        refutation();
        needs();
        tapeLength();
        statements();
        goingOn();
        partingBytes();
        numberDigits();
        signs();
        statementMeanings();
        places();
        placesAtEnd();
        firstFault();
        leastKind();
        syntax();
        range();
        twice();
        pivot();
        both();
        room();
        CHECKS.finish();
    }

    private static void variables() {
        CHECKS.sentence("VARIABLES are 1 .. 10");
        CHECKS.reads("c1:1;", 1);
        CHECKS.reads("c1:10;", 1);
        CHECKS.fails("c1:0;", RANGE, 3);
        CHECKS.fails("c1:11;", RANGE, 3);
        CHECKS.reads("c1:1 2 3 4 5 6 7 8 9 10;", 1);
        CraigBench bench = new CraigBench();
        CHECKS.due("label(1, 2)", bench.label(1, 2), 2);
        CHECKS.due("label(10, 2)", bench.label(10, 2), 2);
        CHECKS.due("label(0, 2)", bench.label(0, 2), CraigBench.RANGE);
        CHECKS.due("label(11, 2)", bench.label(11, 2), CraigBench.RANGE);
        CHECKS.due("eliminate(1)", bench.eliminate(1), 0);
        CHECKS.due("eliminate(10)", bench.eliminate(10), 0);
        CHECKS.due("eliminate(0)", bench.eliminate(0), CraigBench.RANGE);
        CHECKS.due("eliminate(11)", bench.eliminate(11), CraigBench.RANGE);
    }

    private static void literals() {
        CHECKS.sentence("a LITERAL is one of them, or with - ahead its opposite");
        for (int v = 1; v <= 10; v++) {
            CraigBench bench = Checks.benchWith("c1:" + v + ";c1:-" + v + ";c1: - " + v + ";");
            CHECKS.clauseDue(bench, 1, 1, 0, 0, 0, 1 << (v - 1), 0);
            CHECKS.clauseDue(bench, 2, 1, 0, 0, 0, 1 << (v - 1), 1 << (v - 1));
            CHECKS.clauseDue(bench, 3, 1, 0, 0, 0, 1 << (v - 1), 1 << (v - 1));
        }
    }

    private static void sets() {
        CHECKS.sentence("a CLAUSE is a set of LITERALS, true when one of these is");
        CraigBench bench = Checks.benchWith("c1:;c1:1 2 -3;c1:-3 2 1;c1:-1 -2 -3 -4 -5 -6 -7 -8 -9 -10;");
        CHECKS.clauseDue(bench, 1, 1, 0, 0, 0, 0, 0);
        CHECKS.clauseDue(bench, 2, 1, 0, 0, 0, 7, 4);
        CHECKS.clauseDue(bench, 3, 1, 0, 0, 0, 7, 4);
        CHECKS.clauseDue(bench, 4, 1, 0, 0, 0, 1023, 1023);
        // Of the same set in another order none comes: 3 with 4 on 1 is 2.
        CraigBench other = Checks.benchWith("c1:2 -3;c1:1 -3;c1:1 2;c1:-1 -3;");
        CHECKS.due("eliminate(1)", other.eliminate(1), 1);
        CHECKS.clauseDue(other, 5, 0, 2, 4, 1, 4, 4);
        // By McMillan's way the first is told by itself: false when none of its LITERALS is true, else true.
        CraigBench told = Checks.benchWith("c1:1 -10;c2:-1;c2:10;r1 2 1;r3 4 10;");
        CHECKS.due("interpolate(1, 0)", told.interpolate(1, 0), 2);
        CHECKS.due("value(512)", told.value(512), 0);
        CHECKS.due("value(0)", told.value(0), 1);
        CHECKS.due("value(513)", told.value(513), 1);
        CHECKS.due("value(1)", told.value(1), 1);
    }

    private static void numbers() {
        CHECKS.sentence("CLAUSES are numbered from 1 as they come");
        CraigBench bench = Checks.benchWith("c3:1;c4:-1 2;");
        CHECKS.due("clause(0, 0)", bench.clause(0, 0), CraigBench.NONE);
        CHECKS.due("clause(1, 0)", bench.clause(1, 0), 3);
        CHECKS.due("clause(2, 0)", bench.clause(2, 0), 4);
        CHECKS.due("clause(3, 0)", bench.clause(3, 0), CraigBench.NONE);
        CHECKS.due("eliminate(1)", bench.eliminate(1), 1);
        CHECKS.clauseDue(bench, 3, 0, 1, 2, 1, 2, 0);
        CHECKS.readsOn(bench, "c5:7;r1 2 1;", 2);
        CHECKS.due("clause(4, 0)", bench.clause(4, 0), 5);
        CHECKS.clauseDue(bench, 5, 0, 1, 2, 1, 2, 0);
        CHECKS.due("clause(6, 0)", bench.clause(6, 0), CraigBench.NONE);
        // What a text with a FAULT would have brought takes no number.
        CHECKS.failsOn(bench, "c6:8;c6:9;x", SYNTAX, 10);
        CHECKS.readsOn(bench, "c7:10;", 1);
        CHECKS.due("clause(6, 0)", bench.clause(6, 0), 7);
        bench.clear();
        CHECKS.readsOn(bench, "c8:1;", 1);
        CHECKS.due("clause(1, 0)", bench.clause(1, 0), 8);
    }

    private static void mostClauses() {
        CHECKS.sentence("CLAUSES .. 200 at most");
        CraigBench bench = Checks.benchWith(TWO + "r1 2 1;".repeat(197));
        CHECKS.due("count(0)", bench.count(0), 199);
        CHECKS.due("clause(200, 0)", bench.clause(200, 0), CraigBench.NONE);
        CHECKS.readsOn(bench, "c8:5;", 1);
        CHECKS.due("count(0)", bench.count(0), 200);
        CHECKS.due("clause(200, 0)", bench.clause(200, 0), 8);
        CHECKS.failsOn(bench, "c8:5;", ROOM, 0);
        CHECKS.failsOn(bench, "r1 2 1;", ROOM, 0);
        CHECKS.due("clause(200, 0)", bench.clause(200, 0), 8);
        CHECKS.due("clause(201, 0)", bench.clause(201, 0), CraigBench.NONE);
    }

    private static void mostGiven() {
        CHECKS.sentence("GIVEN ones, 60 at most");
        CHECKS.reads("c1:1;".repeat(60), 60);
        CHECKS.fails("c1:1;".repeat(61), ROOM, 300);
        CraigBench bench = Checks.benchWith("c1:1;".repeat(30));
        CHECKS.readsOn(bench, "c1:-1;".repeat(29), 29);
        CHECKS.failsOn(bench, "c1:1;c1:1;", ROOM, 5);
        CHECKS.readsOn(bench, "c1:1;", 1);
        CHECKS.due("count(1)", bench.count(1), 60);
        CHECKS.failsOn(bench, "c1:1;", ROOM, 0);
        // RESOLVENTS have room beside them.
        CHECKS.readsOn(bench, "r1 31 1;".repeat(140), 140);
        CHECKS.due("count(0)", bench.count(0), 200);
        CHECKS.due("count(1)", bench.count(1), 60);
        CraigBench other = Checks.benchWith("c1:1;".repeat(59) + "c1:-1;");
        CHECKS.due("eliminate(1) beside 60", other.eliminate(1), 1);
        CHECKS.due("clause(61, 0)", other.clause(61, 0), 0);
    }

    private static void blocks() {
        CHECKS.sentence("each of a BLOCK 1 .. 8");
        for (int block = 1; block <= 8; block++) {
            CraigBench bench = Checks.benchWith("c" + block + ":1;");
            CHECKS.due("BLOCK " + block, bench.clause(1, 0), block);
        }
        CHECKS.fails("c0:1;", RANGE, 1);
        CHECKS.fails("c9:1;", RANGE, 1);
        CHECKS.fails("c10:1;", RANGE, 1);
    }

    private static void resolvents() {
        CHECKS.sentence("THE RESOLVENT of i and j on v, i with v, j with -v, has the other LITERALS of both");
        CraigBench bench = Checks.benchWith("c1:1 2 -3;c1:-1 2 -10;c1:10;c1:-10;c1:5 1;");
        CHECKS.readsOn(bench, "r1 2 1;r3 4 10;r3 2 10;r5 8 1;", 4);
        // 2 is there once; 1 is gone, and -1 too
        CHECKS.clauseDue(bench, 6, 0, 1, 2, 1, 0b1000000110, 0b1000000100);
        CHECKS.clauseDue(bench, 7, 0, 3, 4, 10, 0, 0);
        CHECKS.clauseDue(bench, 8, 0, 3, 2, 10, 0b11, 0b01);
        CHECKS.clauseDue(bench, 9, 0, 5, 8, 1, 0b10010, 0);
    }

    private static void refutation() {
        CHECKS.sentence("THE REFUTATION is the first CLAUSE that has none (given or not)");
        CHECKS.due("a given one", Checks.benchWith("c1:1;c8:;c1:;").refutation(), 2);
        CHECKS.due("the first CLAUSE", Checks.benchWith("c8:;").refutation(), 1);
        CHECKS.due("a RESOLVENT ahead", Checks.benchWith(TWO + "r1 2 1;c1:;r1 2 1;").refutation(), 3);
        CHECKS.due("a given one ahead", Checks.benchWith(TWO + "c1:;r1 2 1;").refutation(), 3);
        CHECKS.due("the last CLAUSE", Checks.benchWith("c1:1;".repeat(59) + "c2:;").refutation(), 60);
        CHECKS.due("with one LITERAL", Checks.benchWith("c1:10;c1:-10;").refutation(), CraigBench.NONE);
        CraigBench bench = Checks.benchWith(TWO);
        CHECKS.due("eliminate(1)", bench.eliminate(1), 1);
        CHECKS.due("by eliminate()", bench.refutation(), 3);
        CHECKS.readsOn(bench, "c1:;", 1);
        CHECKS.due("still the first", bench.refutation(), 3);
    }

    private static void needs() {
        CHECKS.sentence("it NEEDS itself, and the PARENTS of what it needs");
        CraigBench alone = Checks.benchWith("c1:1;c8:;c1:-1;r1 3 1;");
        neededDue(alone, 0, 1, 0, 0);
        // 5 is a PARENT twice over; 2 is none, nor is what comes behind 9
        CraigBench bench = Checks.benchWith("c1:1;c1:4;c1:-1 2;c1:-2 3;r1 3 1;c2:-2 -3;r5 4 2;r5 6 2;");
        CHECKS.readsOn(bench, "r7 8 3;r7 8 3;c1:;", 3);
        CHECKS.due("refutation()", bench.refutation(), 9);
        neededDue(bench, 1, 0, 1, 1, 1, 1, 1, 1, 1, 0, 0);
        CHECKS.due("count(3)", bench.count(3), 8);
        // A RESOLVENT ahead that isn't needed: neither are its PARENTS.
        neededDue(Checks.benchWith("c1:5;c1:-5 6;r1 2 5;c1:1;c2:-1;r4 5 1;"), 0, 0, 0, 1, 1, 1);
        CraigBench none = Checks.benchWith("c1:1;c1:-1 2;r1 2 1;");
        neededDue(none, 0, 0, 0);
        CHECKS.due("count(3) without", none.count(3), 0);
    }

    private static void neededDue(CraigBench bench, int... want) {
        for (int i = 1; i <= want.length; i++) {
            CHECKS.due("clause(" + i + ", 6)", bench.clause(i, 6), want[i - 1]);
        }
    }

    private static void tapeLength() {
        CHECKS.sentence("THE TAPE has at most 2000 bytes");
        String blanks = " ".repeat(1995);
        CHECKS.reads(blanks + "c1:1;", 1);
        CHECKS.reads("c1:1;" + blanks, 1);
        CHECKS.fails(blanks + "c1:1x", SYNTAX, 1999);
        CHECKS.fails(blanks + "c1:11", RANGE, 1998);
        CHECKS.fails(blanks + "c1:10", SYNTAX, 2000);
        CHECKS.fails("c1:1 " + blanks, SYNTAX, 2000);
        CHECKS.fails("c1:" + "1".repeat(1997), SYNTAX, 3);
        CHECKS.fails(";".repeat(2000), SYNTAX, 0);
        // 400 CLAUSES would be on it: it ends at the 61st.
        CHECKS.fails("c1:1;".repeat(400), ROOM, 300);
        CHECKS.reads("c1:1;".repeat(60) + "\n".repeat(1700), 60);
    }

    private static void statements() {
        CHECKS.sentence("text = {\"c\" NUMBER \":\" {[\"-\"] NUMBER} \";\" | \"r\" NUMBER NUMBER NUMBER \";\"}");
        CHECKS.reads("", 0);
        CHECKS.reads(" ", 0);
        CHECKS.reads("c1:;", 1);
        CHECKS.reads("c1:1;", 1);
        CHECKS.reads("c1:-1;", 1);
        CHECKS.reads("c1:1-2 3-4;", 1);
        CHECKS.reads("c1:1;c1:-1;r1 2 1;c1:;r1 2 1;", 5);
        CHECKS.fails(";", SYNTAX, 0);
        CHECKS.fails("c1:1;;", SYNTAX, 5);
        CHECKS.fails("c1:--1;", SYNTAX, 4);
        CHECKS.fails("c1:1-;", SYNTAX, 5);
        CHECKS.fails(TWO + "r1 2;", SYNTAX, 15);
        CHECKS.fails(TWO + "r1 2 1 1;", SYNTAX, 18);
        CHECKS.fails(TWO + "r1 2 -1;", SYNTAX, 16);
        CHECKS.fails(TWO + "r1 2:1;", SYNTAX, 15);
    }

    // What may stand ahead of each place of the grammar, and which tokens go on from there (N a NUMBER, E the end).
    private static final String[][] GOING_ON = {
        {TWO, "c r E"},
        {TWO + "c", "N"},
        {TWO + "c1 ", ":"},
        {TWO + "c1:", "- ; N"},
        {TWO + "c1:-", "N"},
        {TWO + "c1:2 ", "- ; N"},
        {TWO + "c1:-2 ", "- ; N"},
        {TWO + "r", "N"},
        {TWO + "r1 ", "N"},
        {TWO + "r1 2 ", "N"},
        {TWO + "r1 2 1 ", ";"},
    };
    private static final String[] TOKENS = {"c", "r", ":", ";", "-", "1", "0001", "x", "E"};

    private static void goingOn() {
        CHECKS.sentence("SYNTAX: a token .. with which no text goes on");
        for (String[] row : GOING_ON) {
            for (String token : TOKENS) {
                String kind = token.equals("1") ? "N" : token;
                boolean goesOn = (" " + row[1] + " ").contains(" " + kind + " ");
                String text = row[0] + (token.equals("E") ? "" : token);
                CraigBench bench = new CraigBench();
                int come = Checks.readText(bench, text);
                boolean syntaxHere = come == CraigBench.NONE && bench.fault(0) == SYNTAX
                    && bench.fault(1) == row[0].length();
                CHECKS.holds("'" + text + "' " + (goesOn ? "goes on" : "doesn't go on"), goesOn != syntaxHere);
            }
        }
    }

    private static void partingBytes() {
        CHECKS.sentence("Bytes 32 and 10 part tokens");
        for (int sign = 0; sign <= 255; sign++) {
            CraigBench bench = new CraigBench();
            int come = Checks.readText(bench, "c1:1" + (char) sign + "2;");
            if (sign == 32 || sign == 10) {
                CHECKS.due("read() with " + sign, come, 1);
                CHECKS.clauseDue(bench, 1, 1, 0, 0, 0, 3, 0);
            } else if (sign == '-') {
                CHECKS.due("read() with " + sign, come, 1);
                CHECKS.clauseDue(bench, 1, 1, 0, 0, 0, 3, 2);
            } else if (sign >= '0' && sign <= '9') {
                CHECKS.due("fault(0) with " + sign, bench.fault(0), RANGE);
                CHECKS.due("fault(1) with " + sign, bench.fault(1), 3);
            } else if (sign == ';') {
                CHECKS.due("fault(0) with " + sign, bench.fault(0), SYNTAX);
                CHECKS.due("fault(1) with " + sign, bench.fault(1), 5);
            } else {
                CHECKS.due("fault(0) with " + sign, bench.fault(0), SYNTAX);
                CHECKS.due("fault(1) with " + sign, bench.fault(1), 4);
            }
        }
        CHECKS.reads("\n \nc\n 1 \n:\n\n1 \n-  2\n;  \n", 1);
        CHECKS.reads("c1:1;c1:-1; r 1\n2 1\n;", 3);
    }

    private static void numberDigits() {
        CHECKS.sentence("a NUMBER is a run of digits, 3 at most");
        CHECKS.reads("c1:1 02 003 010;", 1);
        CHECKS.reads("c001:1;c008:-001;r001 002 001;", 3);
        CHECKS.fails("c1:999;", RANGE, 3);
        CHECKS.fails("c1:1000;", SYNTAX, 3);
        CHECKS.fails("c1:0001;", SYNTAX, 3);
        CHECKS.fails("c1:-0001;", SYNTAX, 4);
        CHECKS.fails("c0001:1;", SYNTAX, 1);
        CHECKS.fails(TWO + "r0001 2 1;", SYNTAX, 12);
        CHECKS.fails(TWO + "r1 0002 1;", SYNTAX, 14);
        CHECKS.fails(TWO + "r1 2 0001;", SYNTAX, 16);
        // 2^32 + 1, which an int would take for 1
        CHECKS.fails("c1:4294967297;", SYNTAX, 3);
        // Parted, the digits are two NUMBERS.
        CraigBench bench = Checks.benchWith("c1:1 0\n;");
        CHECKS.due("fault(0) of 1 0", bench.fault(0), RANGE);
        CHECKS.due("fault(1) of 1 0", bench.fault(1), 5);
        CHECKS.reads("c1:001 002;", 1);
    }

    private static void signs() {
        CHECKS.sentence("c, r, :, ;, - are tokens by themselves");
        CHECKS.reads("c1:1-2-3;c1:-1;r1 2 1;", 3);
        CHECKS.fails("cc1:1;", SYNTAX, 1);
        CHECKS.fails("cr1:1;", SYNTAX, 1);
        CHECKS.fails("c1::1;", SYNTAX, 3);
        CHECKS.fails("c1:1;;c1:1;", SYNTAX, 5);
        for (String other : new String[] {"C", "R", ",", ".", "+", "b", "d", "q", "s", "/", "<", "_"}) {
            CHECKS.fails(other + "1:1;", SYNTAX, 0);
            CHECKS.fails("c1:" + other + "1;", SYNTAX, 3);
            CHECKS.fails("c1:1" + other, SYNTAX, 4);
        }
    }

    private static void statementMeanings() {
        CHECKS.sentence("c: a CLAUSE of a BLOCK with these LITERALS; r i j v: THE RESOLVENT");
        CraigBench bench = Checks.benchWith("c8:;c1:10 -9;c2:9;r3 2 9;");
        CHECKS.clauseDue(bench, 1, 8, 0, 0, 0, 0, 0);
        CHECKS.clauseDue(bench, 2, 1, 0, 0, 0, 0b1100000000, 0b0100000000);
        CHECKS.clauseDue(bench, 3, 2, 0, 0, 0, 0b0100000000, 0);
        CHECKS.clauseDue(bench, 4, 0, 3, 2, 9, 0b1000000000, 0);
    }

    private static void places() {
        CHECKS.sentence("PLACE (the first byte of a token ..)");
        CHECKS.fails("x", SYNTAX, 0);
        CHECKS.fails("  x", SYNTAX, 2);
        CHECKS.fails("c 999 :", RANGE, 2);
        CHECKS.fails("c1: 999", RANGE, 4);
        CHECKS.fails("c1: 12345 ;", SYNTAX, 4);
        CHECKS.fails("c1:\n\n-  11;", RANGE, 8);
        CHECKS.fails(TWO + " r 1  2   10;", PIVOT, 21);
        // Its first byte was the first of a feed, or the last.
        CHECKS.fails(" ".repeat(20) + "x", SYNTAX, 20);
        CHECKS.fails(" ".repeat(19) + "12", SYNTAX, 19);
    }

    private static void placesAtEnd() {
        CHECKS.sentence("PLACE (.. the text's length at its end)");
        CHECKS.fails("c", SYNTAX, 1);
        CHECKS.fails("c  \n", SYNTAX, 4);
        CHECKS.fails("c1", SYNTAX, 2);
        CHECKS.fails("c1:", SYNTAX, 3);
        CHECKS.fails("c1:-", SYNTAX, 4);
        CHECKS.fails("c1:1", SYNTAX, 4);
        CHECKS.fails("c1:1 ", SYNTAX, 5);
        CHECKS.fails(TWO + "r", SYNTAX, 12);
        CHECKS.fails(TWO + "r1", SYNTAX, 13);
        CHECKS.fails(TWO + "r1 2", SYNTAX, 15);
        CHECKS.fails(TWO + "r1 2 1", SYNTAX, 17);
        CHECKS.fails(TWO + "r1 2 1\n", SYNTAX, 18);
        CHECKS.fails("c1:1" + " ".repeat(16), SYNTAX, 20);
    }

    private static void firstFault() {
        CHECKS.sentence("FAULTS ..: the first that is come to as tokens are read one by one");
        CHECKS.fails("c9:11 x", RANGE, 1);
        CHECKS.fails("c9 x", RANGE, 1);
        CHECKS.fails("c1:1 1 11;", TWICE, 5);
        CHECKS.fails("c1:11 1 1;", RANGE, 3);
        CHECKS.fails("c1:2 2", TWICE, 5);
        CHECKS.fails(TWO + "r3 9 11;", RANGE, 12);
        CHECKS.fails(TWO + "r1 9 11;", RANGE, 14);
        CHECKS.fails(TWO + "r1 1 1 x", PIVOT, 16);
        CHECKS.fails("c1:1 2;c1:-1 -2;r1 2 1 x", BOTH, 21);
        CHECKS.fails("c1:1;".repeat(60) + "c9 x", ROOM, 300);
        CHECKS.fails("c1:1;".repeat(60) + "x c", SYNTAX, 300);
        CHECKS.fails("c1:1;c1:2 x;c1:3 3;", SYNTAX, 10);
    }

    private static void leastKind() {
        CHECKS.sentence("of one token the least KIND");
        // SYNTAX ahead of RANGE, TWICE, PIVOT and BOTH: a run of four digits
        CHECKS.fails("c0009:1;", SYNTAX, 1);
        CHECKS.fails("c1:1 0001;", SYNTAX, 5);
        CHECKS.fails(TWO + "r1 2 0002;", SYNTAX, 16);
        CHECKS.fails("c1:1 2;c1:-1 -2;r1 2 0001;", SYNTAX, 21);
        // SYNTAX ahead of ROOM: a c or r where none goes on
        CHECKS.fails("c1:1;".repeat(59) + "c1:1 c", SYNTAX, 300);
        CHECKS.fails("c1:1;".repeat(59) + "c1:-1;r1 c", SYNTAX, 304);
        CHECKS.fails(TWO + "r1 2 1;".repeat(197) + "r1 r", SYNTAX, 11 + 197 * 7 + 3);
        // RANGE ahead of PIVOT: no CLAUSE has 0 or 11
        CHECKS.fails(TWO + "r1 2 0;", RANGE, 16);
        CHECKS.fails(TWO + "r1 2 11;", RANGE, 16);
        // PIVOT ahead of BOTH: i has not v and the rest has a LITERAL and its opposite
        CHECKS.fails("c1:1 2;c1:-1 -2;r2 1 1;", PIVOT, 21);
        CHECKS.fails("c1:1 2;c1:-1 -2;r1 2 3;", PIVOT, 21);
        CHECKS.fails("c1:1 2;c1:3 -2;r1 2 1;", PIVOT, 20);
    }

    private static void syntax() {
        CHECKS.sentence("1 SYNTAX: .. (or byte that is none, or a run of more digits)");
        for (int sign = 0; sign <= 255; sign++) {
            boolean known = " \ncr:;-0123456789".indexOf(sign) >= 0;
            if (!known) {
                CHECKS.fails("c1:1;" + (char) sign, SYNTAX, 5);
                CHECKS.fails("c1:1;c" + (char) sign + "1:1;", SYNTAX, 6);
            }
        }
        CHECKS.fails("1234", SYNTAX, 0);
        CHECKS.fails("c1234", SYNTAX, 1);
        CHECKS.fails("c1:1234567890123456789012345678901234567890;", SYNTAX, 3);
    }

    private static void range() {
        CHECKS.sentence("2 RANGE: a BLOCK, a VARIABLE, the number of a CLAUSE that isn't there yet");
        CHECKS.fails("c0:;", RANGE, 1);
        CHECKS.fails("c9:;", RANGE, 1);
        CHECKS.fails("c999:;", RANGE, 1);
        CHECKS.fails("c1:0;", RANGE, 3);
        CHECKS.fails("c1:-0;", RANGE, 4);
        CHECKS.fails("c1:11;", RANGE, 3);
        CHECKS.fails("c1:-11;", RANGE, 4);
        CHECKS.fails("r1 1 1;", RANGE, 1);
        CHECKS.fails("r0 0 0;", RANGE, 1);
        CHECKS.fails(TWO + "r0 2 1;", RANGE, 12);
        CHECKS.fails(TWO + "r1 0 1;", RANGE, 14);
        // Its own number, and that of one that comes later
        CHECKS.fails(TWO + "r3 2 1;", RANGE, 12);
        CHECKS.fails(TWO + "r1 3 1;", RANGE, 14);
        CHECKS.fails("c1:1;r1 2 1;c1:-1;", RANGE, 8);
        CHECKS.fails(TWO + "r201 2 1;", RANGE, 12);
        CHECKS.fails(TWO + "r1 999 1;", RANGE, 14);
        // The latest CLAUSE is there, of this text or of one ahead.
        CHECKS.reads("c1:1 2;c1:-1;r1 2 1;c1:-2;r3 4 2;", 5);
        CraigBench bench = Checks.benchWith(TWO);
        CHECKS.readsOn(bench, "r1 2 1;", 1);
        CHECKS.failsOn(bench, "c1:1;r5 2 1;", RANGE, 6);
        bench.clear();
        CHECKS.failsOn(bench, "r1 2 1;", RANGE, 1);
        // With 200 there, 200 is the number of one: this is another FAULT.
        CHECKS.fails(TWO + "r1 2 1;".repeat(197) + "c1:1;r", ROOM, 11 + 197 * 7 + 5);
        CHECKS.reads(TWO + "r1 2 1;".repeat(196) + "c1:3;r1 2 1;", 200);
    }

    private static void twice() {
        CHECKS.sentence("3 TWICE: a LITERAL that is there already in this CLAUSE, or its opposite is (at its NUMBER)");
        for (int v = 1; v <= 10; v++) {
            int at = v == 10 ? 6 : 5;
            CHECKS.fails("c1:" + v + " " + v + ";", TWICE, at);
            CHECKS.fails("c1:" + v + "-" + v + ";", TWICE, at);
            CHECKS.fails("c1:-" + v + " " + v + ";", TWICE, at + 1);
            CHECKS.fails("c1:-" + v + "-" + v + ";", TWICE, at + 1);
        }
        CHECKS.fails("c1:1 -  1;", TWICE, 8);
        CHECKS.fails("c1:1 2 3 4 5 6 7 8 9 10 001;", TWICE, 24);
        // In another CLAUSE it may be.
        CHECKS.reads("c1:1;c1:1;c1:-1;c2:-1 2;c2:2 -1;", 5);
    }

    private static void pivot() {
        CHECKS.sentence("4 PIVOT, at the third NUMBER of r: i has not v, or j has not -v");
        String three = "c1:1;c1:-1;c1:3;";
        CHECKS.reads(three + "r1 2 1;", 4);
        CHECKS.fails(three + "r3 2 1;", PIVOT, 21);
        CHECKS.fails(three + "r1 3 1;", PIVOT, 21);
        CHECKS.fails(three + "r2 1 1;", PIVOT, 21);
        CHECKS.fails(three + "r1 1 1;", PIVOT, 21);
        CHECKS.fails(three + "r2 2 1;", PIVOT, 21);
        CHECKS.fails(three + "r1 2 3;", PIVOT, 21);
        CHECKS.fails(three + "r1 2 10;", PIVOT, 21);
        CHECKS.fails("c1:;c1:;r1 2 1;", PIVOT, 13);
    }

    private static void both() {
        CHECKS.sentence("5 BOTH: likewise: THE RESOLVENT would have a LITERAL and its opposite");
        CHECKS.fails("c1:1 2;c1:-1 -2;r1 2 1;", BOTH, 21);
        CHECKS.fails("c1:1 -2;c1:-1 2;r1 2 1;", BOTH, 21);
        CHECKS.fails("c1:9 10;c1:-9 -10;r1 2 009;", BOTH, 23);
        CHECKS.fails("c1:9 10;c1:-9 -10;r1 2 10;", BOTH, 23);
        CHECKS.fails("c1:1 2 3;c1:-1 2 -3;r1 2 1;", BOTH, 25);
        // The same LITERAL in both is none.
        CHECKS.reads("c1:1 2;c1:-1 2;r1 2 1;", 3);
        CHECKS.reads("c1:1 -2;c1:-1 -2;r1 2 1;", 3);
    }

    private static void room() {
        CHECKS.sentence("6 ROOM: the 61st given CLAUSE, the 201st CLAUSE (at its c, r)");
        String sixty = "c1:1;".repeat(59) + "c1:-1;";
        CHECKS.reads(sixty + "r1 60 1;", 61);
        CHECKS.fails(sixty + " c", ROOM, 302);
        CHECKS.fails(sixty + "r1 60 1;\nc1:1;", ROOM, 310);
        String all = TWO + "r1 2 1;".repeat(198);
        CHECKS.reads(all, 200);
        CHECKS.reads(all + " \n", 200);
        CHECKS.fails(all + "r", ROOM, 1397);
        CHECKS.fails(all + " r1 2 1;", ROOM, 1398);
        CHECKS.fails(all + "c1:1;", ROOM, 1397);
        CHECKS.fails(all + "x", SYNTAX, 1397);
        CraigBench bench = Checks.benchWith(all);
        CHECKS.due("clear()", bench.clear(), 200);
        CHECKS.readsOn(bench, all, 200);
    }
}
