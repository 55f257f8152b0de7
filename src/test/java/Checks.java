/** Counts the answers that are not as due, and tells them; a test ends with finish(). */
final class Checks {
    private final String name;
    private int asked;
    private int wrong;

    Checks(String name) {
        this.name = name;
    }

    void due(String call, long got, long want) {
        asked++;
        if (got != want) {
            wrong++;
            System.out.println(name + ": " + call + " answered " + got + ", due is " + want);
        }
    }

    void holds(String what, boolean so) {
        due(what, so ? 1 : 0, 1);
    }

    void finish() {
        System.out.println(name + ": " + asked + " checks, " + wrong + " wrong");
        if (wrong != 0 || asked == 0) {
            System.exit(1);
        }
    }

    /** Puts a text behind the tape, with no bytes behind it. */
    static int feedText(CraigBench bench, String text) {
        int before = bench.count(4);
        for (int at = 0; at < text.length(); at += 20) {
            int fed = bench.feed(four(text, at), four(text, at + 4), four(text, at + 8), four(text, at + 12),
                four(text, at + 16));
            if (fed < 0) {
                return fed;
            }
        }
        return bench.end(before + text.length());
    }

    static int readText(CraigBench bench, String text) {
        feedText(bench, text);
        return bench.read();
    }

    static CraigBench benchWith(String text) {
        CraigBench bench = new CraigBench();
        readText(bench, text);
        return bench;
    }

    static int four(String text, int at) {
        int word = 0;
        for (int i = at; i < at + 4; i++) {
            word = word << 8 | (i < text.length() ? text.charAt(i) & 255 : ' ');
        }
        return word;
    }
}
