/** Counts answers that are as due, and tells those that are not. */
final class Check {
    private static int passed;
    private static int failed;

    private Check() {
    }

    static void due(String what, long got, long want) {
        if (got == want) {
            passed++;
        } else {
            failed++;
            if (failed <= 50) {
                System.out.println(what + " answered " + got + ", due is " + want);
            }
        }
    }

    static void holds(String what, boolean isSo) {
        due(what, isSo ? 1 : 0, 1);
    }

    /** A new object with programs 0, 1, .. of these texts. */
    static LongestRuns with(String... texts) {
        LongestRuns x = new LongestRuns();
        for (int p = 0; p < texts.length; p++) {
            write(x, p, texts[p]);
        }
        return x;
    }

    static void write(LongestRuns x, int p, String text) {
        x.wipe();
        say(x, text);
        due("program of " + text, x.program(p), text.length());
    }

    static void say(LongestRuns x, String signs) {
        for (char sign : signs.toCharArray()) {
            x.say(sign);
        }
    }

    /** SETS, WAYS, MISS and HELD LINES of an object that holds none yet. */
    static void shelve(LongestRuns x, int... settings) {
        for (int what = 0; what < settings.length; what++) {
            holds("shelf(" + what + ", " + settings[what] + ")", x.shelf(what, settings[what]) >= 0);
        }
    }

    static void choose(LongestRuns x, int... digits) {
        x.forget();
        for (int digit : digits) {
            x.choose(digit);
        }
    }

    /** All that can be told of a state without changing it, as a text. */
    static String stateOf(LongestRuns x) {
        StringBuilder all = new StringBuilder();
        for (int what = 0; what < 24; what++) {
            all.append(x.told(what)).append(' ');
        }
        all.append(x.fault()).append(' ');
        for (int p = 0; p < 4; p++) {
            all.append('|');
            int nodes = x.told(20 + p);
            for (int node = 0; node < nodes; node++) {
                all.append((char) x.node(p, node, 0)).append(x.node(p, node, 1));
            }
            for (int what = 0; what < 5; what++) {
                all.append(' ').append(x.run(p, what));
            }
        }
        return all.toString();
    }

    static void end() {
        System.out.println(passed + " passed, " + failed + " failed");
        if (failed != 0) {
            System.exit(1);
        }
    }
}
