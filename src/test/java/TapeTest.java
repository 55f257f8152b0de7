/** Promises 1 to 3: a new object, feed, end. */
final class TapeTest {
    private static final Checks CHECKS = new Checks("TapeTest");
    private static final int BLANKS = 0x20202020;

    public static void main(String[] args) {
        newObject();
        feedOrder();
        feedUntilFull();
        endKeepsTheFirst();
        CHECKS.finish();
    }

    private static void newObject() {
        CraigBench bench = new CraigBench();
        for (int what = 0; what <= 4; what++) {
            CHECKS.due("new count(" + what + ")", bench.count(what), 0);
        }
        CHECKS.due("new fault(0)", bench.fault(0), 0);
        CHECKS.due("new fault(1)", bench.fault(1), CraigBench.NONE);
        CHECKS.due("new refutation()", bench.refutation(), CraigBench.NONE);
        CHECKS.due("new clause(0, 0)", bench.clause(0, 0), CraigBench.NONE);
        CHECKS.due("new clause(1, 0)", bench.clause(1, 0), CraigBench.NONE);
        CHECKS.due("new end(0)", bench.end(0), 0);
        CHECKS.due("new end(1)", bench.end(1), CraigBench.NONE);
        CHECKS.due("new value(0)", bench.value(0), CraigBench.NONE);
        CHECKS.due("new partial(1, 0)", bench.partial(1, 0), CraigBench.NONE);
        CHECKS.due("new partial(0, 0)", bench.partial(0, 0), CraigBench.NONE);
        CHECKS.due("new told(0)", bench.told(0), CraigBench.NONE);
        CHECKS.due("new told(1)", bench.told(1), CraigBench.NONE);
        CHECKS.due("new graph(0, 0)", bench.graph(0, 0), CraigBench.NONE);
        CHECKS.due("new interpolate(1, 0)", bench.interpolate(1, 0), CraigBench.NONE);
        CHECKS.due("new follows(1, 0, 0)", bench.follows(1, 0, 0), CraigBench.NONE);
        CHECKS.due("new gap(1, 0, 0)", bench.gap(1, 0, 0), CraigBench.NONE);
        CHECKS.due("new variables(1, 0)", bench.variables(1, 0), 0);
        CHECKS.due("new clear()", bench.clear(), 0);
        CHECKS.due("new read()", bench.read(), 0);
        for (int v = 1; v <= 10; v++) {
            CHECKS.due("new label(" + v + ", 2)", bench.label(v, 2), 2);
        }
    }

    private static void feedOrder() {
        CraigBench bench = new CraigBench();
        // "c 3: 1 -2 5 -6 10 ; " in five ints, the highest byte of each first
        CHECKS.due("feed", bench.feed(0x6320333A, 0x2031202D, 0x32203520, 0x2D362031, 0x30203B20), 20);
        CHECKS.due("count(4)", bench.count(4), 20);
        CHECKS.due("read()", bench.read(), 1);
        CHECKS.due("clause(1, 0)", bench.clause(1, 0), 3);
        CHECKS.due("clause(1, 4)", bench.clause(1, 4), 0b1000110011);
        CHECKS.due("clause(1, 5)", bench.clause(1, 5), 0b0000100010);
        CHECKS.due("count(4) after read()", bench.count(4), 0);
        CHECKS.due("feed of high bytes", bench.feed(-1, -1, -1, -1, -1), 20);
        CHECKS.due("read of high bytes", bench.read(), CraigBench.NONE);
        CHECKS.due("fault(0) of high bytes", bench.fault(0), 1);
        CHECKS.due("fault(1) of high bytes", bench.fault(1), 0);
    }

    private static void feedUntilFull() {
        CraigBench bench = new CraigBench();
        for (int times = 1; times <= 100; times++) {
            CHECKS.due("feed " + times, bench.feed(BLANKS, BLANKS, BLANKS, BLANKS, BLANKS), 20 * times);
        }
        CHECKS.due("feed 101", bench.feed(BLANKS, BLANKS, BLANKS, BLANKS, BLANKS), CraigBench.FULL);
        CHECKS.due("count(4) when full", bench.count(4), 2000);
        CHECKS.due("end(2001)", bench.end(2001), CraigBench.NONE);
        CHECKS.due("end(1981)", bench.end(1981), 1981);
        CHECKS.due("feed at 1981", bench.feed(BLANKS, BLANKS, BLANKS, BLANKS, BLANKS), CraigBench.FULL);
        CHECKS.due("count(4) at 1981", bench.count(4), 1981);
        CHECKS.due("end(1980)", bench.end(1980), 1980);
        CHECKS.due("feed at 1980", bench.feed(BLANKS, BLANKS, BLANKS, BLANKS, BLANKS), 2000);
        CHECKS.due("read of blanks", bench.read(), 0);
        CHECKS.due("fault(0) of blanks", bench.fault(0), 0);
        CHECKS.due("feed after read()", bench.feed(0, 0, 0, 0, 0), 20);
    }

    private static void endKeepsTheFirst() {
        CraigBench bench = new CraigBench();
        Checks.feedText(bench, "c 1: 1; c 2: -1; xyz");
        CHECKS.due("end(-1)", bench.end(-1), CraigBench.NONE);
        CHECKS.due("end(least)", bench.end(Integer.MIN_VALUE), CraigBench.NONE);
        CHECKS.due("end(most)", bench.end(Integer.MAX_VALUE), CraigBench.NONE);
        CHECKS.due("end(21)", bench.end(21), CraigBench.NONE);
        CHECKS.due("count(4)", bench.count(4), 20);
        CHECKS.due("end(20)", bench.end(20), 20);
        CHECKS.due("end(17)", bench.end(17), 17);
        CHECKS.due("end(18)", bench.end(18), CraigBench.NONE);
        CHECKS.due("read()", bench.read(), 2);
        CHECKS.due("clause(2, 5)", bench.clause(2, 5), 1);
        Checks.feedText(bench, "c 1: 1; ");
        Checks.feedText(bench, "c 2: 2;");
        CHECKS.due("read of two feeds", bench.read(), 2);
        Checks.feedText(bench, "c 1: 1;");
        CHECKS.due("end(0)", bench.end(0), 0);
        CHECKS.due("read of nothing", bench.read(), 0);
    }
}
