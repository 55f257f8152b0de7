/**
 * Counts the answers that are not as due, and tells them; a test ends with finish(). A test that goes through the
 * document's sentences opens each with sentence(): one that asks nothing is itself wrong.
 */
final class Checks {
    private final String name;
    private int asked;
    private int wrong;
    private String sentence = "";
    private int sentences;
    private int askedBefore;

    Checks(String name) {
        this.name = name;
    }

    void sentence(String words) {
        closeSentence();
        sentence = " [" + words + "]";
        sentences++;
        askedBefore = asked;
    }

    private void closeSentence() {
        if (sentences > 0 && asked == askedBefore) {
            wrong++;
            System.out.println(name + sentence + " asked nothing");
        }
    }

    void due(String call, long got, long want) {
        asked++;
        if (got != want) {
            wrong++;
            System.out.println(name + sentence + ": " + call + " answered " + got + ", due is " + want);
        }
    }

    void holds(String what, boolean so) {
        due(what, so ? 1 : 0, 1);
    }

    /** A new bench reads a text without a FAULT, and so many CLAUSES come. */
    void reads(String text, int come) {
        CraigBench bench = new CraigBench();
        readsOn(bench, text, come);
        due("count(0) of '" + text + "'", bench.count(0), come);
    }

    void readsOn(CraigBench bench, String text, int come) {
        due("read() of '" + text + "'", readText(bench, text), come);
        due("fault(0) of '" + text + "'", bench.fault(0), 0);
        due("fault(1) of '" + text + "'", bench.fault(1), CraigBench.NONE);
        due("count(4) of '" + text + "'", bench.count(4), 0);
    }

    /** A new bench comes to a FAULT in a text. */
    void fails(String text, int kind, int place) {
        failsOn(new CraigBench(), text, kind, place);
    }

    void failsOn(CraigBench bench, String text, int kind, int place) {
        int before = bench.count(0);
        due("read() of '" + text + "'", readText(bench, text), CraigBench.NONE);
        due("fault(0) of '" + text + "'", bench.fault(0), kind);
        due("fault(1) of '" + text + "'", bench.fault(1), place);
        due("count(0) of '" + text + "'", bench.count(0), before);
        due("count(4) of '" + text + "'", bench.count(4), 0);
    }

    /** All that clause() tells of a CLAUSE but whether it is needed. */
    void clauseDue(CraigBench bench, int i, int... want) {
        for (int what = 0; what < want.length; what++) {
            due("clause(" + i + ", " + what + ")", bench.clause(i, what), want[what]);
        }
    }

    void nodeDue(CraigBench bench, int i, int variable, int low, int high) {
        due("graph(" + i + ", 0)", bench.graph(i, 0), variable);
        due("graph(" + i + ", 1)", bench.graph(i, 1), low);
        due("graph(" + i + ", 2)", bench.graph(i, 2), high);
    }

    void finish() {
        closeSentence();
        String of = sentences > 0 ? " of " + sentences + " sentences" : "";
        System.out.println(name + ": " + asked + " checks" + of + ", " + wrong + " wrong");
        if (wrong != 0 || asked == 0) {
            System.exit(1);
        }
    }

    /** Puts a text behind the tape, with no bytes behind it. */
    static int feedText(CraigBench bench, String text) {
        int before = bench.count(4);
        for (int at = 0; at < text.length(); at += 20) {
            int fed = bench.feed(four(text, at), four(text, at + 4), four(text, at + 8), four(text, at + 12),
                four(text, at + 16));
            if (fed < 0) {
                return fed;
            }
        }
        return bench.end(before + text.length());
    }

    static int readText(CraigBench bench, String text) {
        feedText(bench, text);
        return bench.read();
    }

    static CraigBench benchWith(String text) {
        CraigBench bench = new CraigBench();
        readText(bench, text);
        return bench;
    }

    static int four(String text, int at) {
        int word = 0;
        for (int i = at; i < at + 4; i++) {
            word = word << 8 | (i < text.length() ? text.charAt(i) & 255 : ' ');
        }
        return word;
    }
}
