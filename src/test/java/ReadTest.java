/** Promises 4 and 5: read and fault. */
final class ReadTest {
    private static final Checks CHECKS = new Checks("ReadTest");
    private static final int SYNTAX = 1;
    private static final int RANGE = 2;
    private static final int TWICE = 3;
    private static final int PIVOT = 4;
    private static final int BOTH = 5;
    private static final int ROOM = 6;

    public static void main(String[] args) {
        textsWithoutFault();
        syntaxFaults();
        rangeFaults();
        otherFaults();
        leastKindOfOneToken();
        faultLeavesNothing();
        numbersGoOn();
        roomForGiven();
        roomForAll();
        otherWhats();
        CHECKS.finish();
    }

    private static void textsWithoutFault() {
        CHECKS.reads("", 0);
        CHECKS.reads("  \n ", 0);
        CHECKS.reads("c1:;", 1);
        CHECKS.reads("c1:1-2 3;", 1);
        CHECKS.reads("c\n8\n:\n10\n-\n9\n;\n", 1);
        CHECKS.reads("c001:010-002;", 1);
        CHECKS.reads("c1:1;c1:1;c2:;c2:;", 4);
        CHECKS.reads("c1:1 2;c8:-1 3;r1 2 1;", 3);
        CHECKS.reads("c1:1;c1:-1;r1 2 1;r001 002 001;", 4);
        CHECKS.reads("c1:1 2 3 4 5 6 7 8 9 10;", 1);
        CraigBench bench = Checks.benchWith("c5:2 -7;c3:7 2;r 2 1 7;");
        CHECKS.due("clause(3, 0)", bench.clause(3, 0), 0);
        CHECKS.due("clause(3, 1)", bench.clause(3, 1), 2);
        CHECKS.due("clause(3, 2)", bench.clause(3, 2), 1);
        CHECKS.due("clause(3, 3)", bench.clause(3, 3), 7);
        CHECKS.due("clause(3, 4)", bench.clause(3, 4), 2);
        CHECKS.due("clause(3, 5)", bench.clause(3, 5), 0);
    }

    private static void syntaxFaults() {
        CHECKS.fails("c", SYNTAX, 1);
        CHECKS.fails("c \n ", SYNTAX, 4);
        CHECKS.fails("c1", SYNTAX, 2);
        CHECKS.fails("c1:", SYNTAX, 3);
        CHECKS.fails("c1:1", SYNTAX, 4);
        CHECKS.fails("c1:-", SYNTAX, 4);
        CHECKS.fails("c1:1-;", SYNTAX, 5);
        CHECKS.fails("c1:--1;", SYNTAX, 4);
        CHECKS.fails("c1:1:;", SYNTAX, 4);
        CHECKS.fails("c1:1c;", SYNTAX, 4);
        CHECKS.fails("c1:1 r;", SYNTAX, 5);
        CHECKS.fails("c1 1;", SYNTAX, 3);
        CHECKS.fails("c:1;", SYNTAX, 1);
        CHECKS.fails("c-1:1;", SYNTAX, 1);
        CHECKS.fails("cc1:1;", SYNTAX, 1);
        CHECKS.fails("1", SYNTAX, 0);
        CHECKS.fails(" ;", SYNTAX, 1);
        CHECKS.fails(":", SYNTAX, 0);
        CHECKS.fails("-", SYNTAX, 0);
        CHECKS.fails("c1:1;;", SYNTAX, 5);
        CHECKS.fails("C1:1;", SYNTAX, 0);
        CHECKS.fails("c1:1\t;", SYNTAX, 4);
        CHECKS.fails("c1:1\r\n;", SYNTAX, 4);
        CHECKS.fails("c1:\0;", SYNTAX, 3);
        CHECKS.fails("c1:" + (char) 0xB1 + ";", SYNTAX, 3);
        CHECKS.fails("c1:1;" + (char) 0xE3, SYNTAX, 5);
        CHECKS.fails("c0001:1;", SYNTAX, 1);
        CHECKS.fails("c1: 0001;", SYNTAX, 4);
        CHECKS.fails("c1:1;0001", SYNTAX, 5);
        CHECKS.fails("c1: 99999999999999999999;", SYNTAX, 4);
        CHECKS.fails("c1:1;c1:-1;r", SYNTAX, 12);
        CHECKS.fails("c1:1;c1:-1;r1", SYNTAX, 13);
        CHECKS.fails("c1:1;c1:-1;r1 2", SYNTAX, 15);
        CHECKS.fails("c1:1;c1:-1;r1 2 1", SYNTAX, 17);
        CHECKS.fails("c1:1;c1:-1;r1 2 1 ", SYNTAX, 18);
        CHECKS.fails("c1:1;c1:-1;r1 2;", SYNTAX, 15);
        CHECKS.fails("c1:1;c1:-1;r1 2 1 1;", SYNTAX, 18);
        CHECKS.fails("c1:1;c1:-1;r1 2 -1;", SYNTAX, 16);
        CHECKS.fails("c1:1;c1:-1;r:1 2 1;", SYNTAX, 12);
        CHECKS.fails("c1:1;c1:-1;r1 2 0001;", SYNTAX, 16);
    }

    private static void rangeFaults() {
        CHECKS.fails("c0:1;", RANGE, 1);
        CHECKS.fails("c 9:1;", RANGE, 2);
        CHECKS.fails("c999:1;", RANGE, 1);
        CHECKS.fails("c1:0;", RANGE, 3);
        CHECKS.fails("c1: 11;", RANGE, 4);
        CHECKS.fails("c1:- 11;", RANGE, 5);
        CHECKS.fails("c1:1 -0;", RANGE, 6);
        CHECKS.fails("r1 1 1;", RANGE, 1);
        CHECKS.fails("c1:1;r0 1 1;", RANGE, 6);
        CHECKS.fails("c1:1;r2 1 1;", RANGE, 6);
        CHECKS.fails("c1:1;r1 0 1;", RANGE, 8);
        CHECKS.fails("c1:1;r1 2 1;c1:-1;", RANGE, 8);
        CHECKS.fails("c1:1;c1:-1;r1 2 0;", RANGE, 16);
        CHECKS.fails("c1:1;c1:-1;r1 2 11;", RANGE, 16);
        CHECKS.fails("c1:1;c1:-1;r3 2 1;", RANGE, 12);
        CHECKS.fails("c1:1;c1:-1;r200 2 1;", RANGE, 12);
    }

    private static void otherFaults() {
        CHECKS.fails("c1:1 1;", TWICE, 5);
        CHECKS.fails("c1:1 -1;", TWICE, 6);
        CHECKS.fails("c1:-1 - 1;", TWICE, 8);
        CHECKS.fails("c1:-1 2 1;", TWICE, 8);
        CHECKS.fails("c1:10 010;", TWICE, 6);
        CHECKS.fails("c1:1;c1:-1;r2 1 1;", PIVOT, 16);
        CHECKS.fails("c1:1;c1:-1;r1 1 1;", PIVOT, 16);
        CHECKS.fails("c1:1;c1:-1;r2 2 1;", PIVOT, 16);
        CHECKS.fails("c1:1;c1:-1;r1 2 2;", PIVOT, 16);
        CHECKS.fails("c1:1 2;c1:-1 -2;r1 2 1;", BOTH, 21);
        CHECKS.fails("c1:1 -2;c1:-1 2;r1 2  1;", BOTH, 22);
        CHECKS.fails("c1:1 -2;c1:-1 2;r2 1 2;", BOTH, 21);
    }

    private static void leastKindOfOneToken() {
        CHECKS.fails("c1:1 2;c1:-1 -2;r2 1 1;", PIVOT, 21);
        CHECKS.fails("c1:1 1 0;", TWICE, 5);
        CHECKS.fails("c0:1 1", RANGE, 1);
        CHECKS.fails("c1:1 1", TWICE, 5);
        CHECKS.fails("c1:1;c1:-1;r1 2 2 2", PIVOT, 16);
    }

    private static void faultLeavesNothing() {
        CraigBench bench = Checks.benchWith("c1:1;");
        CHECKS.due("read with a fault", Checks.readText(bench, "c1:2;c1:;c1:3 3;"), CraigBench.NONE);
        CHECKS.due("count(0)", bench.count(0), 1);
        CHECKS.due("count(1)", bench.count(1), 1);
        CHECKS.due("count(2)", bench.count(2), 1);
        CHECKS.due("refutation()", bench.refutation(), CraigBench.NONE);
        CHECKS.due("clause(2, 0)", bench.clause(2, 0), CraigBench.NONE);
        CHECKS.due("variables(1, 0)", bench.variables(1, 0), 1);
        CHECKS.due("fault(0)", bench.fault(0), TWICE);
        CHECKS.due("fault(1)", bench.fault(1), 14);
        CHECKS.due("fault(0) again", bench.fault(0), TWICE);
        CHECKS.due("read of nothing", bench.read(), 0);
        CHECKS.due("fault(0) of nothing", bench.fault(0), 0);
        CHECKS.due("fault(1) of nothing", bench.fault(1), CraigBench.NONE);
    }

    private static void numbersGoOn() {
        CraigBench bench = Checks.benchWith("c1:1;");
        CHECKS.due("read behind", Checks.readText(bench, "c2:-1;r1 2 1;"), 2);
        CHECKS.due("clause(2, 0)", bench.clause(2, 0), 2);
        CHECKS.due("clause(3, 1)", bench.clause(3, 1), 1);
        CHECKS.due("refutation()", bench.refutation(), 3);
        CHECKS.due("read of r alone", Checks.readText(bench, "r1 2 1;"), 1);
        CHECKS.due("count(0)", bench.count(0), 4);
        CHECKS.due("count(1)", bench.count(1), 2);
    }

    private static void roomForGiven() {
        CHECKS.reads("c1:1;".repeat(60), 60);
        CHECKS.fails("c1:1;".repeat(60) + " c1:1;", ROOM, 301);
        CHECKS.fails("c1:1;".repeat(60) + "c", ROOM, 300);
        CraigBench bench = Checks.benchWith("c1:1;".repeat(59) + "c1:-1;");
        CHECKS.due("the 61st read", Checks.readText(bench, "r 1 60 1;  c0"), CraigBench.NONE);
        CHECKS.due("its fault(0)", bench.fault(0), ROOM);
        CHECKS.due("its fault(1)", bench.fault(1), 11);
        CHECKS.due("a resolvent still", Checks.readText(bench, "r 1 60 1;"), 1);
        CHECKS.due("clear()", bench.clear(), 61);
        CHECKS.due("room again", Checks.readText(bench, "c1:1;"), 1);
    }

    private static void roomForAll() {
        String two = "c1:1;c1:-1;";
        CHECKS.reads(two + "r1 2 1;".repeat(198), 200);
        CHECKS.fails(two + "r1 2 1;".repeat(198) + "r", ROOM, 11 + 198 * 7);
        CHECKS.fails(two + "r1 2 1;".repeat(198) + " c", ROOM, 12 + 198 * 7);
        CraigBench bench = Checks.benchWith(two + "r1 2 1;".repeat(197));
        CHECKS.due("two more", Checks.readText(bench, "r1 2 1;r1 2 1;"), CraigBench.NONE);
        CHECKS.due("fault(1) of two more", bench.fault(1), 7);
        CHECKS.due("one more", Checks.readText(bench, "c8:5;"), 1);
        CHECKS.due("clause(200, 0)", bench.clause(200, 0), 8);
        CHECKS.due("clause(201, 0)", bench.clause(201, 0), CraigBench.NONE);
        CHECKS.due("given at 200", Checks.readText(bench, "\nc8:5;"), CraigBench.NONE);
        CHECKS.due("its fault(0)", bench.fault(0), ROOM);
        CHECKS.due("its fault(1)", bench.fault(1), 1);
    }

    private static void otherWhats() {
        CraigBench bench = Checks.benchWith("x");
        CHECKS.due("fault(2)", bench.fault(2), CraigBench.NONE);
        CHECKS.due("fault(-1)", bench.fault(-1), CraigBench.NONE);
        bench.clear();
        CHECKS.due("fault(0) after clear()", bench.fault(0), SYNTAX);
        CHECKS.due("fault(1) after clear()", bench.fault(1), 0);
    }
}
