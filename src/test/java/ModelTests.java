import java.util.Map;
import java.util.Random;
import java.util.TreeSet;

/** Long runs of calls against the slow model, and short programs against all their runs. */
public final class ModelTests {
    private static final String[] CALLS = {"shelf", "say", "wipe", "fault", "program", "node",
        "choose", "forget", "run", "most", "row", "age", "sort", "bound", "fast", "crowd", "period",
        "breaks", "done", "late", "image", "restore", "told"};

    public static void main(String[] args) {
        int objects = args.length > 1 ? Integer.parseInt(args[1]) : 400;
        for (int seed = 0; seed < objects; seed++) {
            mixedCalls(seed);
        }
        for (int seed = 0; seed < 2 * objects; seed++) {
            studied(seed);
        }
        for (int seed = 0; seed < 4 * objects; seed++) {
            allRuns(seed);
        }
        Check.end();
    }

    /** A text of the grammar; a wide one has no ends around fewer than so many others. */
    private static String textBy(Random by, int around, int lines, int wide) {
        int kind = around == 4 ? by.nextInt(7) : around < wide ? 7 + by.nextInt(13) : by.nextInt(20);
        if (kind == 0) {
            return "-";
        }
        if (kind < 7) {
            return "" + (char) ('0' + by.nextInt(lines));
        }
        if (kind < 11) {
            return "bcd".charAt(by.nextInt(3)) + textBy(by, around + 1, lines, wide);
        }
        String sign = kind < 16 ? ";" : "?";
        return sign + textBy(by, around + 1, lines, wide) + textBy(by, around + 1, lines, wide);
    }

    static String shortTextBy(Random by, int most) {
        int lines = 1 + by.nextInt(8);
        int wide = by.nextInt(5);
        for (int i = 0; i < 1000; i++) {
            String text = textBy(by, 0, lines, wide);
            if (text.length() <= most) {
                return text;
            }
        }
        return "0";
    }

    private static void mixedCalls(int seed) {
        Random by = new Random(seed);
        LongestRuns x = new LongestRuns();
        Model model = new Model();
        StringBuilder calls = new StringBuilder();
        // No more than 512 calls are promised: a text may take 33 of them, the end takes 25.
        for (int made = 0; made < 430; made++) {
            if (by.nextInt(8) == 0) {
                made += writeSome(by, x, model, calls);
            }
            String call = CALLS[by.nextInt(CALLS.length)];
            if (call.equals("fast") && by.nextInt(4) != 0) {
                call = "told";
            }
            int[] a = argumentsFor(call, by);
            calls.append(call).append(java.util.Arrays.toString(a)).append(' ');
            Check.due("seed " + seed + ": " + calls, answer(x, call, a), answer(model, call, a));
        }
        for (int what = 0; what < 25; what++) {
            Check.due("seed " + seed + " at the end: told " + what, x.told(what), model.told(what));
        }
    }

    /** Answers how many calls it took. */
    private static int writeSome(Random by, LongestRuns x, Model model, StringBuilder calls) {
        String text = shortTextBy(by, 30);
        if (by.nextInt(6) == 0) {
            text = text.substring(0, by.nextInt(text.length())) + (char) (33 + by.nextInt(94));
        }
        calls.append("write ").append(text).append(' ');
        if (by.nextInt(6) != 0) {
            Check.due("wipe", x.wipe(), model.wipe());
        }
        for (char sign : text.toCharArray()) {
            Check.due("say", x.say(sign), model.say(sign));
        }
        Check.due("fault: " + calls, x.fault(), model.fault());
        int p = by.nextInt(4);
        Check.due("program: " + calls, x.program(p), model.program(p));
        return text.length() + 3;
    }

    private static int[] argumentsFor(String call, Random by) {
        int[] a = new int[4];
        for (int i = 0; i < a.length; i++) {
            a[i] = by.nextInt(20) == 0 ? by.nextInt(60) - 20 : by.nextInt(5);
        }
        if (call.equals("shelf")) {
            a[0] = by.nextInt(20) == 0 ? by.nextInt(10) - 3 : by.nextInt(4);
            a[1] = a[0] == 3 ? by.nextInt(256) & by.nextInt(256) : by.nextInt(a[0] == 2 ? 23 : 5);
        } else if (call.equals("node") || call.equals("sort") || call.equals("age")) {
            a[1] = by.nextInt(12) - 1;
            a[2] = by.nextInt(8) == 0 ? by.nextInt(5) - 1 : by.nextInt(2);
            a[3] = by.nextInt(9);
        } else if (call.equals("choose")) {
            a[0] = by.nextInt(11);
        } else if (call.equals("row")) {
            a[1] = by.nextInt(24) - 2;
        } else if (call.equals("period")) {
            a[1] = by.nextBoolean() ? by.nextInt(400) : by.nextInt(10100) - 50;
        } else if (call.equals("told")) {
            a[0] = by.nextInt(28) - 2;
        } else if (call.equals("say")) {
            a[0] = by.nextBoolean() ? ";?bcd-01234567".charAt(by.nextInt(14)) : by.nextInt(130);
        }
        return a;
    }

    private static int answer(LongestRuns x, String call, int[] a) {
        switch (call) {
            case "shelf": return x.shelf(a[0], a[1]);
            case "say": return x.say(a[0]);
            case "wipe": return x.wipe();
            case "fault": return x.fault();
            case "program": return x.program(a[0]);
            case "node": return x.node(a[0], a[1], a[2]);
            case "choose": return x.choose(a[0]);
            case "forget": return x.forget();
            case "run": return x.run(a[0], a[1]);
            case "most": return x.most(a[0], a[1]);
            case "row": return x.row(a[0], a[1]);
            case "age": return x.age(a[0], a[1], a[2], a[3]);
            case "sort": return x.sort(a[0], a[1]);
            case "bound": return x.bound(a[0], a[1]);
            case "fast": return x.fast(a[0], a[1]);
            case "crowd": return x.crowd(a[0]);
            case "period": return x.period(a[0], a[1]);
            case "breaks": return x.breaks(a[0], a[1]);
            case "done": return x.done(a[0]);
            case "late": return x.late(a[0]);
            case "image": return x.image(a[0]);
            case "restore": return x.restore(a[0]);
            default: return x.told(a[0]);
        }
    }

    private static int answer(Model x, String call, int[] a) {
        switch (call) {
            case "shelf": return x.shelf(a[0], a[1]);
            case "say": return x.say(a[0]);
            case "wipe": return x.wipe();
            case "fault": return x.fault();
            case "program": return x.program(a[0]);
            case "node": return x.node(a[0], a[1], a[2]);
            case "choose": return x.choose(a[0]);
            case "forget": return x.forget();
            case "run": return x.run(a[0], a[1]);
            case "most": return x.most(a[0], a[1]);
            case "row": return x.row(a[0], a[1]);
            case "age": return x.age(a[0], a[1], a[2], a[3]);
            case "sort": return x.sort(a[0], a[1]);
            case "bound": return x.bound(a[0], a[1]);
            case "fast": return x.fast(a[0], a[1]);
            case "crowd": return x.crowd(a[0]);
            case "period": return x.period(a[0], a[1]);
            case "breaks": return x.breaks(a[0], a[1]);
            case "done": return x.done(a[0]);
            case "late": return x.late(a[0]);
            case "image": return x.image(a[0]);
            case "restore": return x.restore(a[0]);
            default: return x.told(a[0]);
        }
    }

    /** Four tasks and a shelf, then all there is to ask of one of them. */
    private static void studied(int seed) {
        Random by = new Random(1000000 + seed);
        int[] shelf = {1 << by.nextInt(3), 1 + by.nextInt(2), 2 + by.nextInt(19),
            by.nextInt(256) & by.nextInt(256) & by.nextInt(256)};
        String[] texts = new String[4];
        int[] periods = new int[4];
        for (int p = 0; p < 4; p++) {
            texts[p] = shortTextBy(by, 30);
            periods[p] = by.nextInt(3) == 0 ? by.nextInt(3000) : by.nextInt(300);
        }
        int p = by.nextInt(4);
        String set = "studied " + seed + ": " + java.util.Arrays.toString(shelf) + " "
                + String.join(" ", texts) + " " + java.util.Arrays.toString(periods) + " of " + p + " ";
        Model model = modelOf(shelf, texts, periods);
        costs(set, objectOf(shelf, texts, periods), model, p);
        // No more than 512 calls are promised: so each half of the nodes has its own object.
        ages(set, objectOf(shelf, texts, periods), model, p, 0);
        ages(set, objectOf(shelf, texts, periods), model, p, 15);
    }

    private static LongestRuns objectOf(int[] shelf, String[] texts, int[] periods) {
        LongestRuns x = Check.with(texts);
        for (int i = 0; i < 4; i++) {
            x.shelf(i, shelf[i]);
            x.period(i, periods[i]);
        }
        return x;
    }

    private static Model modelOf(int[] shelf, String[] texts, int[] periods) {
        Model model = new Model();
        for (int i = 0; i < 4; i++) {
            model.pad = texts[i];
            model.program(i);
            model.shelf(i, shelf[i]);
            model.period(i, periods[i]);
        }
        return model;
    }

    private static void costs(String set, LongestRuns x, Model model, int p) {
        for (int what = 0; what < 5; what++) {
            ask(set, x, model, "run", p, what);
            ask(set, x, model, "most", p, what);
            ask(set, x, model, "bound", p, what);
            ask(set, x, model, "breaks", p, what);
            ask(set, x, model, "late", what);
        }
        for (int i = -2; i < 22; i++) {
            ask(set, x, model, "row", p, i);
        }
        for (int other = 0; other < 4; other++) {
            ask(set, x, model, "done", other);
        }
        for (int node = 0; node < 30; node++) {
            ask(set, x, model, "sort", p, node);
        }
        ask(set, x, model, "fast", p, 0);
        ask(set, x, model, "fast", p, 1);
        ask(set, x, model, "crowd", p);
    }

    private static void ages(String set, LongestRuns x, Model model, int p, int from) {
        for (int node = from; node < from + 15; node++) {
            for (int i = 0; i < 16; i++) {
                ask(set, x, model, "age", p, node, i / 8, i % 8);
            }
        }
    }

    private static void ask(String set, LongestRuns x, Model model, String call, int... some) {
        int[] a = java.util.Arrays.copyOf(some, 4);
        Check.due(set + call + java.util.Arrays.toString(a), answer(x, call, a), answer(model, call, a));
    }

    /** What all runs of a short program show, one by one. */
    private static final class All {
        int runs;
        int worst = Integer.MIN_VALUE;
        int best = Integer.MAX_VALUE;
        String row = "";
        final TreeSet<String> ends = new TreeSet<>();
        final int[] shelf;
        final Model.Node root;
        final Map<Integer, int[][]> ages;

        All(int[] shelf, Model.Node root) {
            this.shelf = shelf;
            this.root = root;
            ages = Model.ages(shelf, root);
            tryAll("");
        }

        private void tryAll(String row) {
            if (runs > 3000) {
                return;
            }
            Model.Run run = new Model.Run(shelf, root, row);
            if (run.taken > row.length()) {
                for (int digit = 0; digit < run.waysBehind; digit++) {
                    tryAll(row + digit);
                }
                return;
            }
            runs++;
            ends.add(run.lines);
            best = Math.min(best, run.cost);
            if (run.cost > worst) {
                worst = run.cost;
                this.row = row;
            }
            for (int node : run.oldest.keySet()) {
                for (int line = 0; line < 8; line++) {
                    Check.holds("must is above", ages.get(node)[0][line] >= run.oldest.get(node)[line]);
                    Check.holds("may is below", ages.get(node)[1][line] <= run.newest.get(node)[line]);
                }
            }
        }
    }

    private static void allRuns(int seed) {
        Random by = new Random(2000000 + seed);
        String text = shortTextBy(by, 12);
        LongestRuns x = Check.with(text);
        Model model = new Model();
        for (int i = 0; i < 3; i++) {
            int what = by.nextInt(4);
            int v = what == 3 ? 1 << by.nextInt(8) | 1 << by.nextInt(8) : by.nextInt(5);
            Check.due("shelf", x.shelf(what, v), model.shelf(what, v));
        }
        All all = new All(model.now.shelf, Model.parse(text));
        if (all.runs > 3000) {
            return;
        }
        String set = "all runs of " + text + " " + java.util.Arrays.toString(model.now.shelf) + " ";
        Check.due(set + "worst", x.most(0, 0), all.worst);
        Check.due(set + "best", x.most(0, 1), all.best);
        Check.due(set + "ends", x.most(0, 2), all.ends.size());
        Check.due(set + "row", x.row(0, -1), all.row.length() > 20 ? -3 : all.row.length());
        for (int i = 0; i < all.row.length() && all.row.length() <= 20; i++) {
            Check.due(set + "row " + i, x.row(0, i), all.row.charAt(i) - '0');
        }
        Check.holds(set + "bound is never below", x.bound(0, 0) >= all.worst);
        Check.holds(set + "closer is never below", x.bound(0, 1) >= all.worst);
    }
}
