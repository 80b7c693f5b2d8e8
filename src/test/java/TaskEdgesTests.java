/** Each sentence on lines held fast, tasks and images that names an edge, by a test of its own. */
public final class TaskEdgesTests {
    private static final int NONE = -6, UNKNOWN = -1, OUTSIDE = -2, STATE = -3, NO = -5;
    private static final int LEAST = Integer.MIN_VALUE, GREATEST = Integer.MAX_VALUE;
    private static final int SETS = 0, WAYS = 1, MISS = 2, HELD = 3;

    public static void main(String[] args) {
        fastOfNothing();
        fastSetsThatMayBe();
        fastOfAllLines();
        fastWhateverIsHeldNow();
        fastIsTheFewest();
        fastIsTheLeastAsBits();
        fastByMiss();
        fastIsWhatShelfWouldGive();
        whatOfFast();
        crowdOfNoneAndOfAll();
        crowdIsFetchedAnywhere();
        crowdHasHeldOnes();
        programsOfACrowd();
        periodsThatMayBe();
        periodTellsWhichItWas();
        programsOfAPeriod();
        periodZeroIsNoTask();
        breaksALaterOne();
        breaksOneThatIsNotLater();
        breaksWithoutATask();
        breaksInTheSameSet();
        breaksNothing();
        breaksByMiss();
        breaksLeavesHeldOnesOut();
        breaksInSetsWithoutRoom();
        breaksMost();
        doneAtItsPeriod();
        doneIsCutUp();
        doneOfNothing();
        doneByEarlierTasksOnly();
        doneWithWhatBreakingCosts();
        doneByLateOnes();
        doneNever();
        doneNearTheLongestPeriod();
        programsOfDone();
        lateNoneAndAll();
        lateJustAbove();
        lateByEachMiss();
        lateByNoMiss();
        lateByMissOfAllTasks();
        lateMissIsNotTheShelfs();
        whatOfLate();
        imagesZeroAndOne();
        imageNotKept();
        imageKeepsEachSetting();
        imageKeepsEachProgram();
        imageKeepsEachPeriod();
        imageKeepsTheRow();
        imageDoesNotKeepThePad();
        imageKeptAgain();
        imageIsNotUsedUp();
        imageOfANewObject();
        imageOfFullRows();
        lastOfAllCalls();
        Check.end();
    }

    private static void fastIs(LongestRuns x, String text, int lines, int cost) {
        Check.write(x, 0, text);
        Check.due("fast of " + text, x.fast(0, 0), lines);
        Check.due("worst by it of " + text, x.fast(0, 1), cost);
    }

    private static void fastOfNothing() {
        LongestRuns x = new LongestRuns();
        fastIs(x, "-", 0, 0);
        fastIs(x, "d-", 0, 0);
        fastIs(x, ";?--b-", 0, 0);
        fastIs(x, "?-0", 1, 1);
    }

    /** "(a set that may be": of a SET no more than WAYS. */
    private static void fastSetsThatMayBe() {
        LongestRuns x = new LongestRuns();
        fastIs(x, ";0;24", 1 + 4, 12);
        fastIs(x, ";0;13", 1 + 2 + 8, 3);
        x.shelf(WAYS, 1);
        fastIs(x, ";0;24", 1, 21);
        fastIs(x, ";0;13", 1 + 2, 12);
        x.shelf(SETS, 1);
        fastIs(x, ";0;13", 1, 21);
        x.shelf(SETS, 4);
        fastIs(x, ";0;13", 1 + 2 + 8, 3);
        fastIs(x, ";0;41", 1 + 2, 12);
    }

    private static void fastOfAllLines() {
        LongestRuns x = new LongestRuns();
        Check.shelve(x, 4, 2);
        fastIs(x, ";;;01;23;;45;67", 255, 8);
        fastIs(x, "d;;;01;23;45", 63, 24);
        fastIs(x, "7", 128, 1);
        x.shelf(WAYS, 1);
        fastIs(x, ";;;01;23;;45;67", 15, 4 + 40);
    }

    /** "those that are HELD now do not matter". */
    private static void fastWhateverIsHeldNow() {
        int[] held = {0, 1, 4, 5, 16, 64 + 16, 128 + 2, 15, 240};
        for (int lines : held) {
            LongestRuns x = new LongestRuns();
            x.shelf(HELD, lines);
            fastIs(x, "d;0;24", 5, 48);
            Check.due("they stay", x.told(5), lines);
        }
    }

    /** "of several the fewest". */
    private static void fastIsTheFewest() {
        LongestRuns x = new LongestRuns();
        Check.shelve(x, 1, 2);
        // 2 alone: 1 + 10; 0 and 1: 10 + 1, which is less as bits.
        fastIs(x, ";2?01", 4, 11);
        x.shelf(WAYS, 1);
        fastIs(x, "?0?12", 0, 10);
        x.shelf(WAYS, 2);
        fastIs(x, "?0?12", 0, 10);
        fastIs(x, "?00", 1, 1);
    }

    /** "then the least as bits". */
    private static void fastIsTheLeastAsBits() {
        LongestRuns x = new LongestRuns();
        x.shelf(WAYS, 1);
        fastIs(x, ";02", 1, 11);
        fastIs(x, ";20", 1, 11);
        fastIs(x, ";64", 16, 11);
        fastIs(x, ";;64;57", 16 + 32, 22);
        x.shelf(WAYS, 2);
        fastIs(x, ";6;42", 4 + 16, 12);
    }

    private static void fastByMiss() {
        LongestRuns x = new LongestRuns();
        x.shelf(MISS, 2);
        fastIs(x, "d;0;24", 5, 4 * 4);
        x.shelf(MISS, 20);
        fastIs(x, "d;0;24", 5, 4 * 22);
    }

    private static void fastIsWhatShelfWouldGive() {
        String[] texts = {"d;0;24", ";d?02c?46", "?;024", "c;1;3?57"};
        for (String text : texts) {
            LongestRuns x = Check.with(text);
            int lines = x.fast(0, 0);
            int cost = x.fast(0, 1);
            Check.holds("it may be held", x.shelf(HELD, lines) >= 0);
            Check.due("worst of " + text, x.most(0, 0), cost);
        }
    }

    /** "the set as bits (what = 0), WORST by it (1). UNKNOWN; OUTSIDE". */
    private static void whatOfFast() {
        LongestRuns x = Check.with("7", "6", "5", "4");
        for (int p = 0; p < 4; p++) {
            Check.due("fast of " + p, x.fast(p, 0), 128 >> p);
            Check.due("worst by it of " + p, x.fast(p, 1), 1);
        }
        int[] wrong = {-1, 2, 3, 256, LEAST, GREATEST};
        for (int what : wrong) {
            Check.due("what " + what, x.fast(0, what), OUTSIDE);
        }
        int[] programs = {-1, 4, 256, LEAST, GREATEST};
        for (int p : programs) {
            Check.due("fast of " + p, x.fast(p, 0), UNKNOWN);
        }
    }

    private static void crowdOfNoneAndOfAll() {
        LongestRuns x = Check.with("-", "?-d-", ";;;01;23;;45;67", "7");
        Check.due("none", x.crowd(0), 0);
        Check.due("none", x.crowd(1), 0);
        Check.due("all", x.crowd(2), 255);
        Check.due("the last", x.crowd(3), 128);
        for (int line = 0; line < 8; line++) {
            Check.write(x, 0, "" + line);
            Check.due("one", x.crowd(0), 1 << line);
        }
    }

    /** "LINES that it fetches anywhere". */
    private static void crowdIsFetchedAnywhere() {
        LongestRuns x = Check.with("?01", "d7", ";0;0?0b6");
        Check.due("in both texts", x.crowd(0), 3);
        Check.due("in a loop", x.crowd(1), 128);
        Check.due("deep, and more than once", x.crowd(2), 1 + 64);
    }

    private static void crowdHasHeldOnes() {
        LongestRuns x = Check.with(";01");
        x.shelf(HELD, 1 + 4);
        Check.due("held ones too, if fetched", x.crowd(0), 3);
    }

    private static void programsOfACrowd() {
        LongestRuns x = Check.with("0", "1", "2", "3");
        for (int p = 0; p < 4; p++) {
            Check.due("crowd of " + p, x.crowd(p), 1 << p);
        }
        int[] wrong = {-1, 4, 256, LEAST, GREATEST};
        for (int p : wrong) {
            Check.due("crowd of " + p, x.crowd(p), UNKNOWN);
        }
    }

    /** "a PERIOD (0: ..; 1 to 9999)", "OUTSIDE". */
    private static void periodsThatMayBe() {
        int[] right = {0, 1, 2, 9998, 9999};
        for (int v : right) {
            LongestRuns x = new LongestRuns();
            Check.due("period " + v, x.period(2, v), 0);
            Check.due("period " + v + " is told", x.told(12), v);
        }
        int[] wrong = {-1, 10000, 10001, -9999, 65536, LEAST, LEAST + 5, GREATEST};
        LongestRuns x = new LongestRuns();
        x.period(2, 77);
        for (int v : wrong) {
            Check.due("period " + v, x.period(2, v), OUTSIDE);
            Check.due("it stays", x.told(12), 77);
        }
    }

    /** "A PERIOD: which it was." */
    private static void periodTellsWhichItWas() {
        LongestRuns x = new LongestRuns();
        int[] all = {9999, 1, 1, 0, 0, 5000};
        int was = 0;
        for (int v : all) {
            Check.due("period " + v, x.period(0, v), was);
            was = v;
        }
        Check.due("refused", x.period(0, 10000), OUTSIDE);
        Check.due("it was not that", x.period(0, 1), 5000);
    }

    private static void programsOfAPeriod() {
        LongestRuns x = new LongestRuns();
        for (int p = 0; p < 4; p++) {
            Check.due("period of " + p, x.period(p, 10 + p), 0);
        }
        for (int p = 0; p < 4; p++) {
            Check.due("period of " + p, x.told(10 + p), 10 + p);
        }
        int[] wrong = {-1, 4, 256, LEAST, GREATEST};
        for (int p : wrong) {
            Check.due("period of " + p, x.period(p, 5), UNKNOWN);
        }
    }

    /** "0: it is no TASK". */
    private static void periodZeroIsNoTask() {
        LongestRuns x = Check.with("0", "1");
        x.period(0, 1);
        x.period(1, 15);
        Check.due("0 is late, and 1 by it", x.late(0), 3);
        x.period(0, 0);
        Check.due("no task any more", x.done(0), STATE);
        Check.due("1 is done", x.done(1), 10);
        Check.due("none is late", x.late(0), 0);
        Check.due("no task to break off", x.breaks(0, 1), STATE);
    }

    private static LongestRuns fourTasks(String... texts) {
        LongestRuns x = Check.with(texts);
        for (int p = 0; p < texts.length; p++) {
            x.period(p, 9999);
        }
        return x;
    }

    /** "What a TASK costs a later one by breaking it off." */
    private static void breaksALaterOne() {
        LongestRuns x = fourTasks("0", ";02", "?24", ";;02;46");
        int[][] want = {{0, 20, 20, 40}, {0, 0, 20, 40}, {0, 0, 0, 40}};
        for (int p = 0; p < 3; p++) {
            for (int later = p + 1; later < 4; later++) {
                Check.due(p + " breaks " + later, x.breaks(p, later), want[p][later]);
            }
        }
    }

    /** "UNKNOWN: also it is not later". */
    private static void breaksOneThatIsNotLater() {
        LongestRuns x = fourTasks("0", "0", "0", "0");
        for (int p = 0; p < 4; p++) {
            for (int later = 0; later < 4; later++) {
                Check.due(p + " breaks " + later, x.breaks(p, later), later > p ? 10 : UNKNOWN);
            }
            Check.due("-1 breaks " + p, x.breaks(-1, p), UNKNOWN);
            Check.due(p + " breaks 4", x.breaks(p, 4), UNKNOWN);
            Check.due(p + " breaks the greatest", x.breaks(p, GREATEST), UNKNOWN);
            Check.due("the least breaks " + p, x.breaks(LEAST, p), UNKNOWN);
        }
        Check.due("4 breaks 5", x.breaks(4, 5), UNKNOWN);
        Check.due("-2 breaks -1", x.breaks(-2, -1), UNKNOWN);
    }

    /** "STATE: one is no TASK". */
    private static void breaksWithoutATask() {
        LongestRuns x = Check.with("0", "0");
        Check.due("neither is", x.breaks(0, 1), STATE);
        x.period(0, 1);
        Check.due("the later one is not", x.breaks(0, 1), STATE);
        x.period(0, 0);
        x.period(1, 1);
        Check.due("the earlier one is not", x.breaks(0, 1), STATE);
        x.period(0, 9999);
        Check.due("both are", x.breaks(0, 1), 10);
    }

    /** "each LINE of the later one's CROWD in a SET in which its own CROWD has a LINE". */
    private static void breaksInTheSameSet() {
        LongestRuns x = fourTasks("4", ";;;01;23;;45;67");
        Check.due("two sets: 0 2 4 6", x.breaks(0, 1), 40);
        x.shelf(SETS, 4);
        Check.due("four sets: 0 4", x.breaks(0, 1), 20);
        x.shelf(SETS, 1);
        Check.due("one set: all", x.breaks(0, 1), 80);
        x.shelf(WAYS, 1);
        Check.due("ways do not matter", x.breaks(0, 1), 80);
        Check.write(x, 0, ";4;60");
        Check.due("more of its own do not matter", x.breaks(0, 1), 80);
        x.shelf(SETS, 4);
        Check.due("sets 0 and 2", x.breaks(0, 1), 40);
    }

    private static void breaksNothing() {
        LongestRuns x = fourTasks("0", "1", "-", "?13");
        Check.due("another set", x.breaks(0, 1), 0);
        Check.due("another set", x.breaks(0, 3), 0);
        Check.due("no lines to lose", x.breaks(0, 2), 0);
        Check.due("no lines of its own", x.breaks(2, 3), 0);
        Check.due("the same set", x.breaks(1, 3), 20);
    }

    /** "costs that MISS for each LINE". */
    private static void breaksByMiss() {
        LongestRuns x = fourTasks("0", ";02");
        x.shelf(MISS, 2);
        Check.due("the least", x.breaks(0, 1), 4);
        x.shelf(MISS, 20);
        Check.due("the greatest", x.breaks(0, 1), 40);
    }

    /** "(HELD ones left out)". */
    private static void breaksLeavesHeldOnesOut() {
        LongestRuns x = fourTasks("0", ";02");
        x.shelf(HELD, 4);
        Check.due("the later one's", x.breaks(0, 1), 10);
        x.shelf(HELD, 1);
        Check.due("its own", x.breaks(0, 1), 0);
        x.shelf(HELD, 5);
        Check.due("all of both", x.breaks(0, 1), 0);
        x.shelf(HELD, 16);
        Check.due("neither one's", x.breaks(0, 1), 20);
        Check.write(x, 0, ";06");
        x.shelf(HELD, 1);
        Check.due("6 is its own, too", x.breaks(0, 1), 10);
    }

    /** LINES of a SET without ROOM are counted like others: the document leaves out HELD ones only. */
    private static void breaksInSetsWithoutRoom() {
        LongestRuns x = fourTasks("0", ";02");
        x.shelf(HELD, 16 + 64);
        Check.due("0 and 2", x.breaks(0, 1), 20);
        Check.due("done", x.done(1), 20 + 10 + 20);
        x.shelf(HELD, 4 + 64);
        Check.due("0", x.breaks(0, 1), 10);
    }

    private static void breaksMost() {
        LongestRuns x = fourTasks("0", "-", "-", ";;;01;23;;45;67");
        Check.shelve(x, 1, 2, 20);
        Check.due("eight lines", x.breaks(0, 3), 160);
        Check.due("by nothing", x.breaks(1, 3), 0);
    }

    /** "NO: it comes above its PERIOD": at its PERIOD it is done. */
    private static void doneAtItsPeriod() {
        LongestRuns x = Check.with("0", "1");
        x.period(0, 10);
        Check.due("at it", x.done(0), 10);
        x.period(0, 9);
        Check.due("above it", x.done(0), NO);
        x.period(0, 11);
        Check.due("below it", x.done(0), 10);
        x.period(0, 50);
        x.period(1, 20);
        Check.due("at it, broken off", x.done(1), 20);
        x.period(1, 19);
        Check.due("above it, broken off", x.done(1), NO);
    }

    /** "t by its PERIOD, cut up". */
    private static void doneIsCutUp() {
        LongestRuns x = Check.with("0", "1");
        x.period(1, 9999);
        int[] periods = {11, 12, 14, 15, 19, 20, 21, 30, 9999};
        // 10 and 10 for each begun PERIOD: found from 10 on.
        int[] times = {110, 60, 40, 30, 30, 20, 20, 20, 20};
        for (int i = 0; i < periods.length; i++) {
            x.period(0, periods[i]);
            Check.due("done by period " + periods[i], x.done(1), times[i]);
        }
    }

    /** "found from its own WORST on": of nothing that is 0, and stays so. */
    private static void doneOfNothing() {
        LongestRuns x = Check.with("0", "-", "1", "-");
        x.period(0, 50);
        x.period(1, 1);
        x.period(3, 9999);
        Check.due("nothing behind 0", x.done(1), 0);
        Check.due("nothing at the end", x.done(3), 0);
        x.period(0, 1);
        Check.due("nothing behind a late one", x.done(1), 0);
        Check.due("only 0 is late", x.late(0), 1);
        x.period(0, 0);
        x.period(2, 10);
        Check.due("nothing breaks off nothing", x.done(2), 10);
    }

    /** "for each earlier TASK". */
    private static void doneByEarlierTasksOnly() {
        LongestRuns x = Check.with("0", "1", "0", "1");
        x.period(2, 500);
        Check.due("alone", x.done(2), 10);
        x.period(3, 10);
        Check.due("a later one does not matter", x.done(2), 10);
        x.period(1, 500);
        Check.due("one earlier", x.done(2), 20);
        x.period(0, 500);
        Check.due("two earlier, one of them in its set", x.done(2), 10 + 10 + 20);
        Check.due("the first one is not broken off", x.done(0), 10);
        x.period(3, 500);
        Check.due("three earlier", x.done(3), 10 + 10 + 20 + 10);
        x.period(1, 0);
        Check.due("two of them", x.done(3), 30);
    }

    /** "times (its WORST and what breaking off costs this one)". */
    private static void doneWithWhatBreakingCosts() {
        LongestRuns x = Check.with(";01", ";;02;13");
        x.period(0, 100);
        x.period(1, 9999);
        Check.due("once", x.done(1), 40 + 20 + 40);
        x.period(0, 99);
        Check.due("twice", x.done(1), 40 + 2 * 60);
        x.shelf(HELD, 1 + 2);
        // WORST of 0 is 2; 2 and 3 have one WAY each, and none of 0's LINES can push them out.
        Check.due("held", x.done(1), 22 + 2);
    }

    private static void doneByLateOnes() {
        LongestRuns x = Check.with("d0", "1");
        x.period(0, 12);
        x.period(1, 9999);
        Check.due("late", x.done(0), NO);
        Check.due("it breaks off all the same", x.done(1), NO);
        x.period(1, 0);
        x.period(0, 13);
        Check.due("in time", x.done(0), 13);
    }

    /** As much is added each time as has gone by: it comes above every PERIOD. */
    private static void doneNever() {
        LongestRuns x = Check.with("0", "1", "dddd2", "dddd3");
        x.shelf(MISS, 20);
        for (int p = 0; p < 3; p++) {
            x.period(p, 1);
        }
        x.period(3, 9999);
        for (int p = 0; p < 4; p++) {
            Check.due("never done", x.done(p), NO);
        }
        Check.due("all are late", x.late(0), 15);
        Check.due("by all misses", x.late(1), NONE);
    }

    private static void doneNearTheLongestPeriod() {
        LongestRuns x = Check.with("dddd0", "dddd1");
        Check.shelve(x, 1, 1, 19, 128);
        x.period(0, 9999);
        x.period(1, 9999);
        Check.due("256 misses each, and one by breaking off", x.done(1), 512 * 19 + 19);
        x.period(1, 512 * 19 + 19);
        Check.due("at its period", x.done(1), 9747);
        x.period(1, 512 * 19 + 18);
        Check.due("above its period", x.done(1), NO);
        x.period(1, 9999);
        x.shelf(MISS, 20);
        Check.due("above the longest period", x.done(1), NO);
        Check.due("late", x.late(0), 2);
        Check.due("by one less it is not", x.late(1), 19);
    }

    private static void programsOfDone() {
        LongestRuns x = fourTasks("0", "1", "2", "3");
        for (int p = 0; p < 4; p++) {
            Check.holds("done of " + p, x.done(p) >= 10);
        }
        int[] wrong = {-1, 4, 256, LEAST, GREATEST};
        for (int p : wrong) {
            Check.due("done of " + p, x.done(p), UNKNOWN);
        }
        x.period(3, 0);
        Check.due("it is no task", x.done(3), STATE);
    }

    /** "TASKS that are LATE, as bits (what = 0)". */
    private static void lateNoneAndAll() {
        for (int bits = 0; bits < 16; bits++) {
            LongestRuns x = Check.with("0", "0", "0", "0");
            for (int p = 0; p < 4; p++) {
                x.period(p, (bits >> p & 1) == 1 ? 9 : 0);
            }
            Check.due("tasks " + bits, x.late(0), bits);
        }
        LongestRuns x = fourTasks("0", "1", "2", "3");
        Check.due("none", x.late(0), 0);
        x.period(2, 1);
        Check.due("the third, and the fourth by it", x.late(0), 4 + 8);
    }

    private static void lateJustAbove() {
        LongestRuns x = Check.with("0", "1");
        x.period(0, 10);
        Check.due("at its period", x.late(0), 0);
        x.period(0, 9);
        Check.due("above it", x.late(0), 1);
        x.period(0, 20);
        x.period(1, 20);
        Check.due("both at their periods", x.late(0), 0);
        x.period(1, 19);
        Check.due("the second above", x.late(0), 2);
    }

    /** "the greatest MISS (2 to 20) by which none would be": for each of them. */
    private static void lateByEachMiss() {
        for (int miss = 2; miss <= 20; miss++) {
            LongestRuns x = Check.with(";01");
            x.period(0, 2 * miss);
            Check.due("by " + miss, x.late(1), miss);
            x.period(0, 2 * miss + 1);
            Check.due("by " + miss + " and not one more", x.late(1), miss);
            x.period(0, 2 * miss - 1);
            Check.due("by one less than " + miss, x.late(1), miss == 2 ? NONE : miss - 1);
        }
        LongestRuns x = Check.with(";01");
        Check.due("no tasks", x.late(1), 20);
        x.period(0, 9999);
        Check.due("no greater one", x.late(1), 20);
    }

    /** "(1; NONE)". */
    private static void lateByNoMiss() {
        LongestRuns x = Check.with(";00");
        x.period(0, 2);
        Check.due("3 at least", x.late(1), NONE);
        Check.due("late", x.late(0), 1);
        x.period(0, 3);
        Check.due("3", x.late(1), 2);
        x.shelf(HELD, 1);
        x.period(0, 1);
        Check.due("held, 2 by all misses", x.late(1), NONE);
        x.period(0, 2);
        Check.due("held, 2 by all misses", x.late(1), 20);
    }

    private static void lateByMissOfAllTasks() {
        LongestRuns x = Check.with("0", "1", "0");
        x.period(0, 100);
        x.period(1, 15);
        Check.due("the second: twice", x.late(1), 7);
        x.period(0, 5);
        // The second: by 5 it comes above 15 (5, 10, 15, 20), by 4: 4, 8, 12, 16; by 3: 3, 6, 9, 9.
        Check.due("both", x.late(1), 3);
        x.period(0, 100);
        x.period(1, 100);
        x.period(2, 11);
        // Once each, and one LINE that the first one breaks off.
        Check.due("the third: four times", x.late(1), 2);
        x.period(2, 7);
        Check.due("none", x.late(1), NONE);
    }

    /** The MISS that is set does not matter, and stays. */
    private static void lateMissIsNotTheShelfs() {
        for (int miss = 2; miss <= 20; miss += 6) {
            LongestRuns x = Check.with(";01");
            x.shelf(MISS, miss);
            x.period(0, 22);
            Check.due("by 11", x.late(1), 11);
            Check.due("it stays", x.told(4), miss);
            Check.due("late by it", x.late(0), miss > 11 ? 1 : 0);
            Check.due("a run costs as before", x.run(0, 0), 2 * miss);
        }
    }

    private static void whatOfLate() {
        LongestRuns x = Check.with("0");
        x.period(0, 9);
        Check.due("what 0", x.late(0), 1);
        Check.due("what 1", x.late(1), 9);
        int[] wrong = {-1, 2, 3, 256, LEAST, GREATEST};
        for (int what : wrong) {
            Check.due("what " + what, x.late(what), OUTSIDE);
        }
    }

    /** "an IMAGE (0, 1): 1. OUTSIDE". */
    private static void imagesZeroAndOne() {
        LongestRuns x = new LongestRuns();
        int[] wrong = {-1, 2, 3, 256, LEAST, GREATEST};
        for (int n : wrong) {
            Check.due("image " + n, x.image(n), OUTSIDE);
            Check.due("restore " + n, x.restore(n), OUTSIDE);
        }
        Check.due("none was kept", x.restore(0), STATE);
        Check.due("none was kept", x.restore(1), STATE);
        for (int n = 0; n < 2; n++) {
            Check.due("image " + n, x.image(n), 1);
            Check.due("restore " + n, x.restore(n), 1);
        }
    }

    /** "STATE: it was not": each by itself, and nothing changes. */
    private static void imageNotKept() {
        for (int n = 0; n < 2; n++) {
            LongestRuns x = Check.with("d;02");
            x.period(0, 99);
            x.choose(3);
            String before = Check.stateOf(x);
            Check.due("image " + n, x.restore(n), STATE);
            Check.holds("nothing changes", before.equals(Check.stateOf(x)));
            Check.due("the other one is kept", x.image(1 - n), 1);
            Check.due("image " + n + " is not", x.restore(n), STATE);
            Check.due("the other one is", x.restore(1 - n), 1);
            Check.holds("nothing has changed", before.equals(Check.stateOf(x)));
        }
    }

    /** "THE SHELF .. kept": SETS, WAYS, MISS, HELD LINES, each by itself. */
    private static void imageKeepsEachSetting() {
        int[] first = {2, 2, 10, 0};
        int[] next = {4, 1, 17, 3};
        for (int what = 0; what < 4; what++) {
            for (int n = 0; n < 2; n++) {
                LongestRuns x = new LongestRuns();
                x.image(n);
                x.shelf(what, next[what]);
                Check.due("changed", x.told(2 + what), next[what]);
                x.image(1 - n);
                Check.due("restored", x.restore(n), 1);
                Check.due("as it was", x.told(2 + what), first[what]);
                Check.due("restored", x.restore(1 - n), 1);
                Check.due("as it was then", x.told(2 + what), next[what]);
            }
        }
    }

    private static void imageKeepsEachProgram() {
        for (int p = 0; p < 4; p++) {
            LongestRuns x = Check.with("0", "1", "2", "3");
            x.image(1);
            Check.write(x, p, "?;45d6");
            Check.due("changed", x.crowd(p), 16 + 32 + 64);
            x.image(0);
            x.restore(1);
            for (int other = 0; other < 4; other++) {
                Check.due("as it was", x.crowd(other), 1 << other);
                Check.due("as it was", x.told(20 + other), 1);
                Check.due("as it was", x.node(other, 0, 0), '0' + other);
                Check.due("as it was", x.most(other, 0), 10);
            }
            x.restore(0);
            Check.due("as it was then", x.told(20 + p), 6);
            Check.due("as it was then", x.node(p, 1, 1), 3);
            Check.due("as it was then", x.most(p, 0), 20);
            Check.due("the others too", x.crowd(3 - p), 1 << 3 - p);
        }
    }

    private static void imageKeepsEachPeriod() {
        for (int p = 0; p < 4; p++) {
            LongestRuns x = Check.with("0", "1", "2", "3");
            x.period(p, 9);
            x.image(0);
            x.period(p, 0);
            x.period(3 - p, 9999);
            Check.due("restored", x.restore(0), 1);
            Check.due("as it was", x.told(10 + p), 9);
            Check.due("as it was", x.told(13 - p), 0);
            Check.due("it is late", x.late(0), 1 << p);
            Check.due("the other one is no task", x.done(3 - p), STATE);
        }
    }

    /** "the row of CHOICES are kept". */
    private static void imageKeepsTheRow() {
        LongestRuns x = Check.with(";?01;?23?45");
        Check.choose(x, 1, 0, 1);
        x.image(0);
        x.forget();
        x.image(1);
        Check.choose(x, 0, 1);
        x.restore(0);
        Check.due("three", x.told(1), 3);
        Check.due("1 0 1", x.run(0, 4), 2 + 4 + 32);
        Check.due("one more", x.choose(9), 4);
        x.restore(1);
        Check.due("none", x.told(1), 0);
        Check.due("0 0 0", x.run(0, 4), 4 + 16);
        Check.due("the first", x.choose(9), 1);
        x.restore(0);
        Check.due("three again", x.forget(), 3);
    }

    /** What is kept has no PAD in it: the PAD stays as it is. */
    private static void imageDoesNotKeepThePad() {
        LongestRuns x = new LongestRuns();
        Check.say(x, ";0");
        x.image(0);
        x.say('7');
        x.restore(0);
        Check.due("three signs", x.told(0), 3);
        Check.due("no fault", x.fault(), NONE);
        Check.due("a program", x.program(0), 3);
        Check.due("0 and 7", x.crowd(0), 129);
        x.restore(0);
        Check.due("nothing again", x.crowd(0), 0);
        Check.due("the pad stays empty", x.told(0), 0);
    }

    /** "as they were when it was kept": the last time. */
    private static void imageKeptAgain() {
        LongestRuns x = new LongestRuns();
        x.shelf(MISS, 5);
        x.image(0);
        x.shelf(MISS, 6);
        x.image(0);
        x.shelf(MISS, 7);
        x.restore(0);
        Check.due("the last time", x.told(4), 6);
        Check.due("refused", x.image(2), OUTSIDE);
        x.shelf(MISS, 8);
        x.restore(0);
        Check.due("a refused one keeps nothing", x.told(4), 6);
    }

    /** What changes behind image() and behind restore() leaves the IMAGE alone. */
    private static void imageIsNotUsedUp() {
        LongestRuns x = Check.with("d;02");
        Check.choose(x, 4);
        x.period(0, 30);
        x.image(0);
        String kept = Check.stateOf(x);
        for (int i = 0; i < 2; i++) {
            Check.write(x, 0, "" + i);
            Check.choose(x, i, i, i);
            x.period(0, i);
            x.shelf(HELD, 1 << i);
            x.shelf(WAYS, 1);
            Check.due("restored", x.restore(0), 1);
            Check.holds("all is as it was", kept.equals(Check.stateOf(x)));
        }
    }

    private static void imageOfANewObject() {
        LongestRuns x = new LongestRuns();
        x.image(1);
        Check.write(x, 3, "d;02");
        Check.shelve(x, 1, 1, 20, 128);
        x.period(3, 9999);
        Check.choose(x, 9, 9);
        x.restore(1);
        Check.holds("new again", Check.stateOf(new LongestRuns()).equals(Check.stateOf(x)));
    }

    /** A row of 20 CHOICES and a PROGRAM of 30 NODES. */
    private static void imageOfFullRows() {
        String text = ";;;;01;23;;45;67;;;01;23;;45d6";
        LongestRuns x = Check.with(text, "dd?01");
        Check.choose(x, 4, 4, 1, 1, 1, 1, 4, 1, 1, 1, 1, 4, 1, 1, 1, 1, 4, 1, 1, 1);
        String before = Check.stateOf(x);
        x.image(0);
        Check.write(x, 0, "-");
        x.forget();
        Check.due("one node", x.told(20), 1);
        x.restore(0);
        Check.due("30 nodes", x.told(20), 30);
        Check.due("the last one", x.node(0, 29, 0), '6');
        Check.due("20 choices", x.told(1), 20);
        Check.due("the row is full", x.choose(1), -4);
        Check.due("fifteen times 1, then 0", x.run(1, 0), 10 + 14 + 10);
        Check.holds("all is as it was", before.equals(Check.stateOf(x)));
    }

    /** "An object is used for at most 512 calls": the last one is answered like the first. */
    private static void lastOfAllCalls() {
        LongestRuns x = new LongestRuns();
        String text = "d???01?23??45?67";
        for (char sign : text.toCharArray()) {
            x.say(sign);
        }
        x.program(0);
        // Four LINES can always be chosen that are not HELD: so holding some gains nothing.
        int[] due = {40, 0, 1 + 8 + 40 + 96 + 144, 0, 40};
        for (int i = 0; i < 512 - 17 - 5; i++) {
            int which = i % 5;
            int got = which < 3 ? x.most(0, which) : x.fast(0, which - 3);
            Check.due("call " + (i + 18), got, due[which]);
        }
        Check.due("told", x.told(20), 16);
        Check.due("miss", x.shelf(MISS, 20), 10);
        Check.due("worst", x.most(0, 0), 80);
        Check.due("image", x.image(0), 1);
        Check.due("the 512th call", x.restore(0), 1);
    }
}
