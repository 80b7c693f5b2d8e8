import java.util.function.Supplier;
import java.util.function.ToIntFunction;

/** Each refusal that a promise names: its answer, what comes first if two fit, what it leaves. */
public final class RefusalTests {
    private static final int UNKNOWN = -1, OUTSIDE = -2, STATE = -3, FULL = -4, NO = -5;
    private static final int LEAST = Integer.MIN_VALUE, GREATEST = Integer.MAX_VALUE;

    public static void main(String[] args) {
        thePictureShowsAll();
        unknownPrograms();
        unknownNodes();
        unknownLines();
        notLater();
        unknownAheadOfOutside();
        unknownAheadOfState();
        unknownAheadOfNo();
        outside();
        outsideAheadOfState();
        outsideAheadOfFull();
        outsideAheadOfNo();
        state();
        stateAheadOfNo();
        full();
        no();
        Check.end();
    }

    /** All four PROGRAMS, 0 and 2 and 3 are TASKS; IMAGE 0 is kept; the PAD has a FAULT. */
    private static LongestRuns busy() {
        LongestRuns x = Check.with("b3", "1", "-", "?45");
        x.period(1, 9999);
        x.choose(7);
        x.image(0);
        Check.write(x, 0, "d?;02;13");
        Check.write(x, 1, "dd?67");
        Check.write(x, 3, ";0?15");
        x.shelf(3, 1 + 16);
        Check.choose(x, 4, 1, 0, 1, 1, 2, 3);
        x.period(0, 90);
        x.period(1, 0);
        x.period(2, 7);
        x.period(3, 20);
        Check.say(x, ";?0");
        return x;
    }

    private static LongestRuns withFullPad() {
        LongestRuns x = busy();
        x.wipe();
        Check.say(x, ";;;;01;23;;45;67;;;01;23;;45d6");
        return x;
    }

    private static LongestRuns withFullRow() {
        LongestRuns x = busy();
        Check.choose(x, 4, 4, 1, 0, 1, 0, 4, 0, 0, 1, 1, 4, 1, 1, 0, 0, 4, 1, 0, 1);
        return x;
    }

    /** All that can be found out of an object, which is of no use then. */
    private static String pictureOf(LongestRuns x) {
        StringBuilder all = new StringBuilder(Check.stateOf(x));
        // Signs are seen only as those of a PROGRAM.
        Check.say(x, "12");
        all.append('/').append(x.program(2)).append(' ').append(x.told(0)).append(' ');
        int nodes = x.told(22);
        for (int node = 0; node < nodes; node++) {
            all.append((char) x.node(2, node, 0));
        }
        for (int n = 0; n < 2; n++) {
            all.append('/').append(x.restore(n)).append(' ').append(Check.stateOf(x));
        }
        return all.toString();
    }

    private static void refuses(int answer, String call, ToIntFunction<LongestRuns> how) {
        refuses(RefusalTests::busy, answer, call, how);
    }

    private static void refuses(Supplier<LongestRuns> made, int answer, String call,
            ToIntFunction<LongestRuns> how) {
        LongestRuns x = made.get();
        Check.due(call, how.applyAsInt(x), answer);
        Check.holds(call + " changes nothing", pictureOf(made.get()).equals(pictureOf(x)));
    }

    /** Calls that are not refused are seen in the picture: so it would show a change. */
    private static void thePictureShowsAll() {
        String[] calls = {"none", "sets", "ways", "miss", "held", "say", "wipe", "program", "choose",
            "forget", "period", "image 0", "image 1", "restore"};
        for (int i = 0; i < calls.length; i++) {
            LongestRuns x = busy();
            switch (calls[i]) {
                case "sets": x.shelf(0, 4); break;
                case "ways": x.shelf(3, 1); x.shelf(1, 1); break;
                case "miss": x.shelf(2, 11); break;
                case "held": x.shelf(3, 4); break;
                case "say": x.say('5'); break;
                case "wipe": x.wipe(); break;
                case "program": x.say('6'); x.say('7'); x.program(0); break;
                case "choose": x.choose(0); break;
                case "forget": x.forget(); break;
                case "period": x.period(1, 1); break;
                case "image 0": x.image(0); break;
                case "image 1": x.image(1); break;
                case "restore": x.restore(0); break;
                default: break;
            }
            boolean isSame = pictureOf(busy()).equals(pictureOf(x));
            Check.due(calls[i] + " is seen", isSame ? 1 : 0, i == 0 ? 1 : 0);
        }
    }

    /** "UNKNOWN -1 (there is no such PROGRAM". */
    private static void unknownPrograms() {
        int[] wrong = {-1, 4, 5, 255, 256, LEAST, GREATEST};
        for (int p : wrong) {
            refuses(UNKNOWN, "program " + p, x -> x.program(p));
            refuses(UNKNOWN, "node " + p, x -> x.node(p, 0, 0));
            refuses(UNKNOWN, "run " + p, x -> x.run(p, 0));
            refuses(UNKNOWN, "most " + p, x -> x.most(p, 0));
            refuses(UNKNOWN, "row " + p, x -> x.row(p, -1));
            refuses(UNKNOWN, "age " + p, x -> x.age(p, 0, 0, 0));
            refuses(UNKNOWN, "sort " + p, x -> x.sort(p, 0));
            refuses(UNKNOWN, "bound " + p, x -> x.bound(p, 0));
            refuses(UNKNOWN, "fast " + p, x -> x.fast(p, 0));
            refuses(UNKNOWN, "crowd " + p, x -> x.crowd(p));
            refuses(UNKNOWN, "period " + p, x -> x.period(p, 1));
            refuses(UNKNOWN, "done " + p, x -> x.done(p));
            refuses(UNKNOWN, "breaks " + p, x -> x.breaks(p, 3));
            refuses(UNKNOWN, "breaks by 0 " + p, x -> x.breaks(0, p));
        }
    }

    /** "no such .. NODE", "also the NODE is no FETCH". */
    private static void unknownNodes() {
        int[] beyond = {-1, 8, 29, 30, 256, LEAST, GREATEST};
        for (int node : beyond) {
            refuses(UNKNOWN, "node " + node, x -> x.node(0, node, 0));
            refuses(UNKNOWN, "age " + node, x -> x.age(0, node, 0, 0));
            refuses(UNKNOWN, "sort " + node, x -> x.sort(0, node));
        }
        int[] noFetches = {0, 1, 2, 5};
        for (int node : noFetches) {
            refuses(UNKNOWN, "age " + node, x -> x.age(0, node, 1, 0));
            refuses(UNKNOWN, "sort " + node, x -> x.sort(0, node));
        }
        refuses(UNKNOWN, "age of nothing", x -> x.age(2, 0, 0, 0));
        refuses(UNKNOWN, "sort of nothing", x -> x.sort(2, 0));
    }

    /** "no such .. LINE". */
    private static void unknownLines() {
        int[] wrong = {-1, 8, 16, 256, LEAST, GREATEST};
        for (int line : wrong) {
            refuses(UNKNOWN, "age of " + line, x -> x.age(0, 3, 0, line));
            refuses(UNKNOWN, "age of " + line, x -> x.age(0, 3, 1, line));
        }
    }

    /** "UNKNOWN: also it is not later". */
    private static void notLater() {
        refuses(UNKNOWN, "breaks itself", x -> x.breaks(0, 0));
        refuses(UNKNOWN, "breaks itself", x -> x.breaks(3, 3));
        refuses(UNKNOWN, "breaks an earlier one", x -> x.breaks(2, 0));
        refuses(UNKNOWN, "breaks an earlier one", x -> x.breaks(3, 2));
    }

    private static void unknownAheadOfOutside() {
        int[] wrong = {-1, 9, LEAST, GREATEST};
        for (int what : wrong) {
            refuses(UNKNOWN, "node of 4", x -> x.node(4, 0, what));
            refuses(UNKNOWN, "node 8", x -> x.node(0, 8, what));
            refuses(UNKNOWN, "run of 4", x -> x.run(4, what));
            refuses(UNKNOWN, "most of 4", x -> x.most(4, what));
            refuses(UNKNOWN, "age of 4", x -> x.age(4, 0, what, 0));
            refuses(UNKNOWN, "age at no fetch", x -> x.age(0, 0, what, 0));
            refuses(UNKNOWN, "age of line 8", x -> x.age(0, 3, what, 8));
            refuses(UNKNOWN, "bound of 4", x -> x.bound(4, what));
            refuses(UNKNOWN, "fast of 4", x -> x.fast(4, what));
        }
        refuses(UNKNOWN, "period of 4", x -> x.period(4, -1));
        refuses(UNKNOWN, "period of -1", x -> x.period(-1, 10000));
    }

    /** PROGRAM 1 is no TASK, and its ROW has 21. */
    private static void unknownAheadOfState() {
        refuses(UNKNOWN, "breaks itself", x -> x.breaks(1, 1));
        refuses(UNKNOWN, "breaks an earlier one", x -> x.breaks(1, 0));
        refuses(UNKNOWN, "breaks one that is not", x -> x.breaks(1, 4));
        refuses(UNKNOWN, "is broken off by one that is not", x -> x.breaks(-1, 1));
        refuses(UNKNOWN, "done of 4", x -> x.done(4));
        refuses(UNKNOWN, "row of 4", x -> x.row(4, 0));
    }

    private static void unknownAheadOfNo() {
        refuses(UNKNOWN, "program 4 with a fault", x -> x.program(4));
        refuses(UNKNOWN, "program -1 with a fault", x -> x.program(-1));
        refuses(RefusalTests::withFullPad, UNKNOWN, "program 4 without one", x -> x.program(4));
    }

    /** "OUTSIDE -2 (another number is not as told)". */
    private static void outside() {
        int[] beyond = {-1, 5, 99, LEAST, GREATEST};
        for (int what : beyond) {
            refuses(OUTSIDE, "shelf", x -> x.shelf(what, 2));
            refuses(OUTSIDE, "node", x -> x.node(0, 0, what));
            refuses(OUTSIDE, "run", x -> x.run(0, what));
            refuses(OUTSIDE, "most", x -> x.most(0, what));
            refuses(OUTSIDE, "age", x -> x.age(0, 3, what, 0));
            refuses(OUTSIDE, "bound", x -> x.bound(0, what));
            refuses(OUTSIDE, "fast", x -> x.fast(0, what));
            refuses(OUTSIDE, "late", x -> x.late(what));
            refuses(OUTSIDE, "image", x -> x.image(what));
            refuses(OUTSIDE, "restore", x -> x.restore(what));
            refuses(OUTSIDE, "sets", x -> x.shelf(0, what));
            refuses(OUTSIDE, "ways", x -> x.shelf(1, what));
            refuses(OUTSIDE, "miss", x -> x.shelf(2, what == 5 ? 1 : what));
            refuses(OUTSIDE, "held", x -> x.shelf(3, what == 5 ? 256 : what == 99 ? 999 : what));
            refuses(OUTSIDE, "say", x -> x.say(what == 99 ? 127 : what));
            refuses(OUTSIDE, "choose", x -> x.choose(what == 5 ? 10 : what));
            refuses(OUTSIDE, "period", x -> x.period(0, what < 0 ? what : 10000 + what % 7));
            refuses(OUTSIDE, "told", x -> x.told(what == 5 ? 6 : what));
        }
        refuses(OUTSIDE, "shelf 4", x -> x.shelf(4, 2));
        refuses(OUTSIDE, "node 2", x -> x.node(0, 0, 2));
        refuses(OUTSIDE, "most 3", x -> x.most(0, 3));
        refuses(OUTSIDE, "age 2", x -> x.age(0, 3, 2, 0));
        refuses(OUTSIDE, "bound 2", x -> x.bound(0, 2));
        refuses(OUTSIDE, "fast 2", x -> x.fast(0, 2));
        refuses(OUTSIDE, "late 2", x -> x.late(2));
        refuses(OUTSIDE, "image 2", x -> x.image(2));
        refuses(OUTSIDE, "miss 21", x -> x.shelf(2, 21));
        refuses(OUTSIDE, "say 32", x -> x.say(32));
    }

    private static void outsideAheadOfState() {
        refuses(OUTSIDE, "restore 2, never kept", x -> x.restore(2));
        refuses(LongestRuns::new, OUTSIDE, "restore 2, none kept", x -> x.restore(2));
        refuses(LongestRuns::new, OUTSIDE, "restore -1, none kept", x -> x.restore(-1));
    }

    private static void outsideAheadOfFull() {
        refuses(RefusalTests::withFullPad, OUTSIDE, "say 32 on a full pad", x -> x.say(32));
        refuses(RefusalTests::withFullPad, OUTSIDE, "say 127 on a full pad", x -> x.say(127));
        refuses(RefusalTests::withFullRow, OUTSIDE, "choose 10 behind 20", x -> x.choose(10));
        refuses(RefusalTests::withFullRow, OUTSIDE, "choose -1 behind 20", x -> x.choose(-1));
    }

    /** Two LINES of a SET are HELD. */
    private static void outsideAheadOfNo() {
        refuses(OUTSIDE, "no ways", x -> x.shelf(1, 0));
        refuses(OUTSIDE, "no sets", x -> x.shelf(0, 0));
        refuses(OUTSIDE, "three ways", x -> x.shelf(1, 3));
        refuses(OUTSIDE, "three sets", x -> x.shelf(0, 3));
        refuses(OUTSIDE, "nine lines", x -> x.shelf(3, 511));
        refuses(OUTSIDE, "all lines and more", x -> x.shelf(3, -1));
    }

    /** "STATE -3 (as told)". */
    private static void state() {
        int[] places = {-2, -1, 0, 19, 20, 21};
        for (int i : places) {
            refuses(STATE, "a row of 21", x -> x.row(1, i));
        }
        refuses(STATE, "the later one is no task", x -> x.breaks(0, 1));
        refuses(STATE, "the earlier one is no task", x -> x.breaks(1, 2));
        refuses(STATE, "it is no task", x -> x.done(1));
        refuses(STATE, "it was not kept", x -> x.restore(1));
        refuses(LongestRuns::new, STATE, "none was kept", x -> x.restore(0));
        refuses(LongestRuns::new, STATE, "there are no tasks", x -> x.breaks(2, 3));
        refuses(LongestRuns::new, STATE, "there are no tasks", x -> x.done(3));
    }

    /** One that is no TASK can not be LATE: PERIOD 0 is below its WORST. */
    private static void stateAheadOfNo() {
        refuses(STATE, "no task", x -> x.done(1));
        refuses(NO, "a late task", x -> x.done(3));
    }

    private static void full() {
        refuses(RefusalTests::withFullPad, FULL, "a 31st sign", x -> x.say('0'));
        refuses(RefusalTests::withFullPad, FULL, "a 31st sign", x -> x.say(33));
        refuses(RefusalTests::withFullPad, FULL, "a 31st sign", x -> x.say(126));
        refuses(RefusalTests::withFullRow, FULL, "a 21st choice", x -> x.choose(0));
        refuses(RefusalTests::withFullRow, FULL, "a 21st choice", x -> x.choose(9));
    }

    private static void no() {
        refuses(NO, "three lines of a set", x -> x.shelf(3, 1 + 4 + 16));
        refuses(NO, "all lines", x -> x.shelf(3, 255));
        refuses(NO, "one way for two lines", x -> x.shelf(1, 1));
        for (int p = 0; p < 4; p++) {
            int which = p;
            refuses(NO, "a pad with a fault", x -> x.program(which));
            refuses(LongestRuns::new, NO, "an empty pad", x -> x.program(which));
        }
        refuses(RefusalTests::holdingFour, NO, "one set for four lines", x -> x.shelf(0, 1));
        refuses(NO, "late", x -> x.done(3));
    }

    private static LongestRuns holdingFour() {
        LongestRuns x = busy();
        x.shelf(3, 15);
        return x;
    }
}
