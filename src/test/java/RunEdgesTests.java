/** Each sentence on runs, the most, the least and the row that names an edge, by its own test. */
public final class RunEdgesTests {
    private static final int NONE = -6, UNKNOWN = -1, OUTSIDE = -2, STATE = -3, FULL = -4;
    private static final int LEAST = Integer.MIN_VALUE, GREATEST = Integer.MAX_VALUE;
    private static final int SETS = 0, WAYS = 1, MISS = 2, HELD = 3;

    // All eight LINES, each by three CHOICES, up to four times.
    private static final String ANY_FOUR = "d???01?23??45?67";

    public static void main(String[] args) {
        digitsThatMayBe();
        twentyDigits();
        forgetOfNoneAndOfAll();
        emptyRow();
        evenAndOdd();
        timesLeftOver();
        eachLoopTakesOneAsItIsComeTo();
        loopDoneNoTimes();
        choicesTakeTheNextOne();
        textsNotTakenTakeNone();
        behindTheEndOfAFullRow();
        choicesBehindTheEndAreCounted();
        digitsThatAreLeft();
        theRowIsNotUsedUp();
        runOfNothing();
        beginsWithAnEmptyShelf();
        whatOfARun();
        programsOfARun();
        linesAtTheEnd();
        theLongestRun();
        leastOfLoopsIsNothing();
        bestIsNotTheFirst();
        worstIsNotGreedy();
        oneShelfAtLeast();
        allShelvesOfOneSet();
        eightLinesInOneSet();
        shelvesOfFourSets();
        unlikeByOrderInASet();
        likeInOtherOrderOfSets();
        heldLinesMakeNoOrder();
        whatOfMost();
        emptyRowOfAProgram();
        placesOfARow();
        rowAsItWouldBeTaken();
        firstByDigits();
        fewerTimesIfAsDear();
        rowByWhatLoopsCost();
        rowOfTextsWithin();
        rowOfNothingWithin();
        rowInSetsWithoutRoom();
        rowWithoutTheToldOne();
        rowOfTwenty();
        rowOfTwentyOne();
        rowOfManyMore();
        programsOfARow();
        Check.end();
    }

    /** "OUTSIDE: 0 to 9". */
    private static void digitsThatMayBe() {
        LongestRuns x = new LongestRuns();
        for (int digit = 0; digit <= 9; digit++) {
            Check.due("choose(" + digit + ")", x.choose(digit), digit + 1);
        }
        int[] wrong = {-1, 10, 11, 256, -9, LEAST, LEAST + 5, GREATEST};
        for (int digit : wrong) {
            Check.due("choose(" + digit + ")", x.choose(digit), OUTSIDE);
            Check.due("the row stays", x.told(1), 10);
        }
    }

    /** "a row of up to 20 digits", "A CHOICE more of the row: how many. .. FULL". */
    private static void twentyDigits() {
        LongestRuns x = new LongestRuns();
        for (int i = 1; i <= 20; i++) {
            Check.due("choice " + i, x.choose(9), i);
        }
        Check.due("one more", x.choose(9), FULL);
        Check.due("and again", x.choose(0), FULL);
        Check.due("twenty", x.told(1), 20);
        Check.due("all go", x.forget(), 20);
        Check.due("there is room again", x.choose(0), 1);
    }

    /** "The row goes: how many there were." */
    private static void forgetOfNoneAndOfAll() {
        for (int digits = 0; digits <= 20; digits++) {
            LongestRuns x = Check.with("?01");
            for (int i = 0; i < digits; i++) {
                x.choose(1);
            }
            Check.due("the second text", x.run(0, 4), digits == 0 ? 1 : 2);
            Check.due("forget", x.forget(), digits);
            Check.due("none is left", x.told(1), 0);
            Check.due("forget again", x.forget(), 0);
            Check.due("the first text", x.run(0, 4), 1);
        }
    }

    /** "(none at first)", "behind the row's end 0". */
    private static void emptyRow() {
        LongestRuns x = Check.with("?01", "d0", ";?01;d2?34");
        Check.due("the first text", x.run(0, 4), 1);
        Check.due("no times", x.run(1, 1), 0);
        Check.due("first, none, first", x.run(2, 4), 1 + 8);
        Check.due("three choices", x.run(2, 3), 3);
        Check.due("the row is empty", x.told(1), 0);
    }

    /** "an even one is the first text, an odd one the second". */
    private static void evenAndOdd() {
        for (int digit = 0; digit <= 9; digit++) {
            LongestRuns x = Check.with("?01");
            x.choose(digit);
            Check.due("by " + digit, x.run(0, 4), digit % 2 == 0 ? 1 : 2);
        }
    }

    /** "none to 2, 3, 4 times", "so many times, left over by one more than it may". */
    private static void timesLeftOver() {
        int[][] times = {{0, 1, 2, 0, 1, 2, 0, 1, 2, 0}, {0, 1, 2, 3, 0, 1, 2, 3, 0, 1},
            {0, 1, 2, 3, 4, 0, 1, 2, 3, 4}};
        for (int loop = 0; loop < 3; loop++) {
            for (int digit = 0; digit <= 9; digit++) {
                LongestRuns x = Check.with("bcd".charAt(loop) + "5");
                x.choose(digit);
                Check.due("bcd".charAt(loop) + " by " + digit, x.run(0, 1), times[loop][digit]);
                Check.due("one choice", x.run(0, 3), 1);
            }
        }
    }

    /** "each LOOP, as it is come to, takes the next one too". */
    private static void eachLoopTakesOneAsItIsComeTo() {
        LongestRuns x = Check.with("bc0", "bb?01");
        Check.choose(x, 2, 3, 1);
        Check.due("three and one", x.run(0, 1), 4);
        Check.due("three choices", x.run(0, 3), 3);
        Check.choose(x, 1, 3, 1);
        Check.due("three", x.run(0, 1), 3);
        Check.due("two choices", x.run(0, 3), 2);
        // Twice: once by 0, then twice by 1 and 0.
        Check.choose(x, 2, 1, 0, 2, 1, 0);
        Check.due("three", x.run(1, 1), 3);
        Check.due("six choices", x.run(1, 3), 6);
        Check.due("both miss once", x.run(1, 2), 2);
    }

    /** "it is done none .. times". */
    private static void loopDoneNoTimes() {
        LongestRuns x = Check.with(";d?01?23");
        Check.choose(x, 0, 1);
        Check.due("the next one is for the choice behind", x.run(0, 4), 8);
        Check.due("two choices", x.run(0, 3), 2);
        Check.choose(x, 5, 1);
        Check.due("five are none of four", x.run(0, 4), 8);
    }

    /** "each CHOICE takes the next one". */
    private static void choicesTakeTheNextOne() {
        LongestRuns x = Check.with(";?01;?23?45");
        int[] lines = {0, 2, 4};
        for (int bits = 0; bits < 8; bits++) {
            Check.choose(x, bits & 1, bits >> 1 & 1, bits >> 2 & 1);
            int want = 0;
            for (int i = 0; i < 3; i++) {
                want |= 1 << lines[i] + (bits >> i & 1);
            }
            // 0, 2, 4 are of one SET, 1, 3, 5 of the other: of three the oldest is gone.
            want = bits == 0 ? 4 + 16 : bits == 7 ? 8 + 32 : want;
            Check.due("by " + bits, x.run(0, 4), want);
        }
    }

    private static void textsNotTakenTakeNone() {
        LongestRuns x = Check.with(";??01d2?34");
        Check.choose(x, 0, 1, 1);
        Check.due("first, second, second", x.run(0, 4), 2 + 16);
        Check.due("three choices", x.run(0, 3), 3);
        Check.choose(x, 1, 1, 1);
        Check.due("second, once, second", x.run(0, 4), 4 + 16);
        Check.due("three choices", x.run(0, 3), 3);
    }

    /** "behind the row's end 0": the 21st of 21. */
    private static void behindTheEndOfAFullRow() {
        LongestRuns x = Check.with("dd?01");
        int[] digits = {4, 4, 1, 1, 1, 1, 4, 1, 1, 1, 1, 4, 1, 1, 1, 1, 4, 1, 1, 1};
        Check.choose(x, digits);
        Check.due("the row is full", x.told(1), 20);
        Check.due("21 choices", x.run(0, 3), 21);
        Check.due("both", x.run(0, 4), 3);
        Check.due("fifteen times 1, then 0", x.run(0, 0), 10 + 14 + 10);
        Check.write(x, 0, ";dc?01;?23;?01?56");
        Check.choose(x, 4, 3, 1, 1, 1, 3, 1, 1, 1, 3, 1, 1, 1, 3, 1, 1, 1, 1, 1, 1);
        Check.due("20 choices", x.run(0, 3), 20);
        // The 20th is taken as told: 6, not 5.
        Check.due("the last", x.run(0, 4), 64 + 8 + 2);
    }

    /** "CHOICES taken (3; those of LOOPS, too, also behind the row's end)". */
    private static void choicesBehindTheEndAreCounted() {
        LongestRuns x = Check.with("?01", "d0", ";?01?23", "ddd?01");
        Check.due("a choice", x.run(0, 3), 1);
        Check.due("a loop", x.run(1, 3), 1);
        Check.due("two", x.run(2, 3), 2);
        x.choose(4);
        Check.due("one told, one not", x.run(2, 3), 2);
        Check.choose(x, 4, 4, 4, 1, 1, 1, 1, 4, 1, 1, 1, 1, 4, 1, 1, 1, 1, 4, 1, 1);
        // One, four of which the last three are none; of the first 4 LOOPS with 4 CHOICES each.
        Check.due("one, four, four, sixteen", x.run(3, 3), 1 + 4 + 4 + 16);
        Check.due("sixteen fetches", x.run(3, 1), 16);
        Check.due("fourteen by 1, two by 0", x.run(3, 0), 10 + 13 + 10 + 1);
    }

    private static void digitsThatAreLeft() {
        LongestRuns x = Check.with("?01", "-");
        Check.choose(x, 1, 0, 9, 8, 7);
        Check.due("the first one only", x.run(0, 4), 2);
        Check.due("one is taken", x.run(0, 3), 1);
        Check.due("none is taken", x.run(1, 3), 0);
        Check.due("all stay", x.told(1), 5);
    }

    private static void theRowIsNotUsedUp() {
        LongestRuns x = Check.with("?01", "?23");
        x.choose(1);
        Check.due("a run", x.run(0, 4), 2);
        Check.due("again", x.run(0, 4), 2);
        Check.due("of another program", x.run(1, 4), 8);
        Check.due("the row stays", x.told(1), 1);
    }

    private static void runOfNothing() {
        String[] nothing = {"-", ";--", "?--", "d-", "dddd-"};
        // The last one: the outermost; within it one that takes 21, 2 of them behind the row's end;
        // then three that take one each, and are done no times.
        int[] taken = {0, 0, 1, 1, 1 + 21 + 3};
        for (int i = 0; i < nothing.length; i++) {
            LongestRuns x = Check.with(nothing[i]);
            for (int digit = 0; digit < 20; digit++) {
                x.choose(4);
            }
            int[] want = {0, 0, 0, taken[i], 0};
            for (int what = 0; what < 5; what++) {
                Check.due("run of " + nothing[i], x.run(0, what), want[what]);
            }
            Check.due("worst", x.most(0, 0), 0);
            Check.due("best", x.most(0, 1), 0);
            Check.due("ends", x.most(0, 2), 1);
        }
    }

    /** "A RUN of a PROGRAM begins with an empty SHELF (but HELD LINES)". */
    private static void beginsWithAnEmptyShelf() {
        LongestRuns x = Check.with("0", ";01");
        Check.due("0", x.run(0, 0), 10);
        Check.due("0 again", x.run(0, 0), 10);
        Check.due("0 and 1", x.run(1, 0), 20);
        Check.due("0 behind it", x.run(0, 0), 10);
        Check.due("only 0 lies there", x.run(0, 4), 1);
        Check.due("worst", x.most(1, 0), 20);
        x.shelf(HELD, 2);
        Check.due("1 is held", x.run(1, 0), 11);
        Check.due("1 is held", x.most(1, 0), 11);
    }

    /** "COST (what = 0), .. (4 ..)": and none beyond. */
    private static void whatOfARun() {
        LongestRuns x = Check.with("d;0;20");
        Check.choose(x, 9);
        int[] want = {20 + 10, 12, 2, 1, 5};
        for (int what = 0; what < 5; what++) {
            Check.due("what " + what, x.run(0, what), want[what]);
        }
        int[] wrong = {-1, 5, 6, 256, LEAST, GREATEST};
        for (int what : wrong) {
            Check.due("what " + what, x.run(0, what), OUTSIDE);
        }
    }

    private static void programsOfARun() {
        LongestRuns x = Check.with("0", "1", "2", "3");
        for (int p = 0; p < 4; p++) {
            Check.due("run " + p, x.run(p, 4), 1 << p);
            Check.due("most " + p, x.most(p, 0), 10);
        }
        int[] wrong = {-1, 4, 256, LEAST, GREATEST};
        for (int p : wrong) {
            Check.due("run " + p, x.run(p, 0), UNKNOWN);
            Check.due("most " + p, x.most(p, 0), UNKNOWN);
        }
    }

    /** "LINES that lie there at its end, as bits (4; HELD ones too)". */
    private static void linesAtTheEnd() {
        LongestRuns x = Check.with(";;;01;23;;45;67");
        Check.due("the newest two of each set", x.run(0, 4), 16 + 32 + 64 + 128);
        x.shelf(SETS, 4);
        Check.due("all", x.run(0, 4), 255);
        x.shelf(WAYS, 1);
        Check.due("the newest of each set", x.run(0, 4), 16 + 32 + 64 + 128);
        x.shelf(HELD, 1 + 2);
        Check.due("held ones stay", x.run(0, 4), 1 + 2 + 64 + 128);
        x.shelf(HELD, 15);
        Check.due("held ones alone", x.run(0, 4), 15);
    }

    /** No PROGRAM fetches more often: four LOOPS of four times around one FETCH. */
    private static void theLongestRun() {
        LongestRuns x = Check.with("dddd0", "dddd0", "dddd1", "d;d;01;20");
        Check.shelve(x, 1, 1, 20);
        Check.due("one miss", x.most(0, 0), 20 + 255);
        x.shelf(HELD, 128);
        Check.due("all miss", x.most(0, 0), 256 * 20);
        Check.due("none at least", x.most(0, 1), 0);
        Check.due("one shelf", x.most(0, 2), 1);
        Check.due("bound", x.bound(0, 0), 256 * 20);
        Check.due("closer", x.bound(0, 1), 256 * 20);
        x.shelf(HELD, 1);
        Check.due("all hit", x.most(0, 0), 256);
        Check.due("row", x.row(0, -1), STATE);
    }

    /** "it is done none .. times": so BEST of a LOOP is 0. */
    private static void leastOfLoopsIsNothing() {
        String[] texts = {"b0", "c;01", "d?01", "bbbb7", ";b0c1"};
        for (String text : texts) {
            LongestRuns x = Check.with(text);
            Check.due("best of " + text, x.most(0, 1), 0);
            Check.holds("worst of " + text, x.most(0, 0) >= 11);
        }
    }

    private static void bestIsNotTheFirst() {
        LongestRuns x = Check.with(";0?20", "?;010", ";?02;?;2002");
        Check.due("0 again", x.most(0, 1), 11);
        Check.due("the second text", x.most(1, 1), 10);
        // 2, then 0 hits not, 2 hits; 0, then 0 hits, 2 not.
        Check.due("what comes first matters", x.most(2, 1), 10 + 1 + 10);
    }

    /** A text that costs less by itself may lead to a dearer end. */
    private static void worstIsNotGreedy() {
        LongestRuns x = Check.with(";?;010;2;02", ";;02;?04;;020");
        Check.due("0 1, 2, 0 hits, 2 hits", x.most(0, 0), 20 + 10 + 1 + 1);
        x.shelf(WAYS, 1);
        Check.due("0 1, 2, 0, 2", x.most(0, 0), 50);
        x.shelf(WAYS, 2);
        // 0: then 0 2 0 hit; 4: 2 4 lie there, 0 misses and pushes 2 out, 2 misses, 0 hits.
        Check.due("4 costs more later", x.most(1, 0), 20 + 10 + 10 + 10 + 1);
    }

    /** "how many unlike SHELVES .. there may be at the end". */
    private static void oneShelfAtLeast() {
        String[] one = {"-", "0", ";01", "?00", "?;01;10", "d-", ";0d0", ";d;02;02"};
        for (String text : one) {
            Check.due("ends of " + text, Check.with(text).most(0, 2), 1);
        }
        String[] two = {"?01", "b0", "?0-", "?;02;20", "d;02"};
        for (String text : two) {
            Check.due("ends of " + text, Check.with(text).most(0, 2), 2);
        }
    }

    private static void allShelvesOfOneSet() {
        LongestRuns x = Check.with(ANY_FOUR);
        x.shelf(SETS, 1);
        Check.due("none, one, two in order", x.most(0, 2), 1 + 8 + 56);
        x.shelf(WAYS, 1);
        Check.due("none, one", x.most(0, 2), 1 + 8);
        x.shelf(HELD, 1);
        Check.due("no room", x.most(0, 2), 1);
        x.shelf(WAYS, 2);
        Check.due("room for one of seven", x.most(0, 2), 1 + 7);
    }

    /** All eight LINES are fetched, 7 as the first, and again at once. */
    private static void eightLinesInOneSet() {
        LongestRuns x = Check.with(";;;77;01;;23;4?56", ";;;70;70;;;12;34;56");
        x.shelf(SETS, 1);
        Check.due("all lines", x.crowd(0), 255);
        Check.due("7 hits once", x.run(0, 0), 10 + 1 + 6 * 10);
        Check.due("worst", x.most(0, 0), 71);
        Check.due("two ends", x.most(0, 2), 2);
        Check.due("all lines", x.crowd(1), 255);
        Check.due("7 and 0 hit once each", x.run(1, 0), 20 + 2 + 6 * 10);
        Check.due("5 and 6 lie there", x.run(1, 4), 32 + 64);
    }

    /** Of four SETS with two LINES each, two WAYS: all that four FETCHES can put there. */
    private static void shelvesOfFourSets() {
        LongestRuns x = Check.with(ANY_FOUR);
        x.shelf(SETS, 4);
        Check.due("of 625", x.most(0, 2), 1 + 8 + 32 + 80 + 136);
        Check.due("worst", x.most(0, 0), 40);
        Check.due("best", x.most(0, 1), 0);
        Check.write(x, 0, ";;?4;04?5;15;?6;26?7;37");
        Check.due("of each set one or two", x.most(0, 2), 16);
    }

    /** "which of a SET is newer". */
    private static void unlikeByOrderInASet() {
        LongestRuns x = Check.with("?;02;20", "?;02;;020", "?;02;;202");
        Check.due("2 newer, 0 newer", x.most(0, 2), 2);
        Check.due("the same lines", x.most(0, 0), 20);
        Check.due("2 newer, 0 newer", x.most(1, 2), 2);
        Check.due("2 newer both", x.most(2, 2), 1);
        x.shelf(WAYS, 1);
        Check.due("2, 0", x.most(0, 2), 2);
        Check.due("2 both", x.most(2, 2), 1);
    }

    private static void likeInOtherOrderOfSets() {
        LongestRuns x = Check.with("?;01;10");
        Check.due("two sets", x.most(0, 2), 1);
        x.shelf(SETS, 4);
        Check.due("four sets", x.most(0, 2), 1);
        x.shelf(SETS, 1);
        Check.due("one set", x.most(0, 2), 2);
    }

    private static void heldLinesMakeNoOrder() {
        LongestRuns x = Check.with("?;02;20", "?0-");
        x.shelf(HELD, 1);
        Check.due("0 has no place in the order", x.most(0, 2), 1);
        Check.due("0 lies there anyway", x.most(1, 2), 1);
        x.shelf(HELD, 16);
        Check.due("room for one", x.most(0, 2), 2);
        x.shelf(HELD, 16 + 64);
        Check.due("room for none", x.most(0, 2), 1);
    }

    /** "WORST (what = 0), BEST (1), .. (2). .. OUTSIDE". */
    private static void whatOfMost() {
        LongestRuns x = Check.with("?0;13");
        int[] want = {20, 10, 2};
        for (int what = 0; what < 3; what++) {
            Check.due("what " + what, x.most(0, what), want[what]);
        }
        int[] wrong = {-1, 3, 4, 256, LEAST, GREATEST};
        for (int what : wrong) {
            Check.due("what " + what, x.most(0, what), OUTSIDE);
        }
    }

    /** "how many CHOICES (i = -1), the i-th; NONE". */
    private static void emptyRowOfAProgram() {
        String[] texts = {"-", "0", ";01", ";;01;23"};
        for (String text : texts) {
            LongestRuns x = Check.with(text);
            Check.due("no choices", x.row(0, -1), 0);
            Check.due("no first", x.row(0, 0), NONE);
            Check.due("no second", x.row(0, 1), NONE);
            Check.due("below", x.row(0, -2), NONE);
        }
    }

    /** "NONE (i below -1, too)". */
    private static void placesOfARow() {
        LongestRuns x = Check.with(";d0?1;35");
        int[] row = {4, 1};
        Check.due("how many", x.row(0, -1), 2);
        Check.due("the first", x.row(0, 0), row[0]);
        Check.due("the last", x.row(0, 1), row[1]);
        int[] none = {2, 3, 19, 20, 21, 256, GREATEST, -2, -3, -256, LEAST};
        for (int i : none) {
            Check.due("row " + i, x.row(0, i), NONE);
        }
    }

    private static void rowIs(LongestRuns x, String text, int... digits) {
        Check.write(x, 0, text);
        Check.due("row of " + text, x.row(0, -1), digits.length);
        for (int i = 0; i < digits.length; i++) {
            Check.due("row of " + text + " at " + i, x.row(0, i), digits[i]);
        }
        Check.due("row of " + text + " behind", x.row(0, digits.length), NONE);
    }

    /** "told as they would be taken: 0 or 1, how many times". */
    private static void rowAsItWouldBeTaken() {
        LongestRuns x = new LongestRuns();
        rowIs(x, "?0;01", 1);
        rowIs(x, "?;010", 0);
        rowIs(x, "b0", 2);
        rowIs(x, "c0", 3);
        rowIs(x, "d0", 4);
        rowIs(x, "bc0", 2, 3, 3);
        rowIs(x, "b?0;13", 2, 0, 1);
        rowIs(x, ";?0;13c2", 1, 3);
    }

    /** "of several the first by digits". */
    private static void firstByDigits() {
        LongestRuns x = new LongestRuns();
        rowIs(x, "?00", 0);
        rowIs(x, "?01", 0);
        rowIs(x, "?--", 0);
        rowIs(x, ";?01?01", 0, 1);
        rowIs(x, "b?01", 2, 0, 1);
        // All cost 20: of rows that are not as long the first one is that with the lesser digit.
        rowIs(x, "??;01;23;45", 0, 0);
        rowIs(x, "?;?010;23", 0, 1);
    }

    /** A LOOP that adds nothing is done no times. */
    private static void fewerTimesIfAsDear() {
        LongestRuns x = new LongestRuns();
        rowIs(x, "b-", 0);
        rowIs(x, "dd-", 0);
        rowIs(x, ";d-c0", 0, 3);
        rowIs(x, "b?-0", 2, 1, 1);
        // Fetched once more, 0 is not the one that 4 pushes out: it hits behind it.
        x.shelf(MISS, 2);
        rowIs(x, ";;02;b0;40", 2);
        rowIs(x, ";;02;?-0;40", 0);
        x.shelf(MISS, 3);
        rowIs(x, ";;02;b0;40", 0);
        x.shelf(MISS, 4);
        rowIs(x, ";;02;c0;40", 0);
        rowIs(x, ";;02;d0;40", 4);
    }

    /** A CHOICE of a LOOP or of as many FETCHES: the one more or less that it may be done matters. */
    private static void rowByWhatLoopsCost() {
        LongestRuns x = new LongestRuns();
        rowIs(x, "?1b0", 1, 2);
        rowIs(x, "?;11b0", 0);
        rowIs(x, "?;11c0", 1, 3);
        rowIs(x, "?;1;11c0", 0);
        rowIs(x, "?;1;11d0", 1, 4);
        rowIs(x, "?;1;1;11d0", 0);
        rowIs(x, "?;1;1;11c0", 0);
        rowIs(x, "?b01", 0, 2);
    }

    private static void rowOfTextsWithin() {
        LongestRuns x = new LongestRuns();
        // The other LINE at the very last: it is first by digits.
        rowIs(x, "d?01", 4, 0, 0, 0, 1);
        rowIs(x, "b??07-", 2, 0, 0, 0, 1);
        rowIs(x, "b;-?0-", 2, 0, 0);
        rowIs(x, "bb?0-", 2, 2, 0, 0, 2, 0, 0);
        // 1, then 0 twice, then 0 twice: 10, 11 and 2.
        rowIs(x, "c?1b0", 3, 0, 1, 2, 1, 2);
        // 1 three times: 4, then 3 and 3; with 3 once it is 2, 4 and 3.
        x.shelf(MISS, 2);
        rowIs(x, "c?3c1", 3, 1, 3, 1, 3, 1, 3);
        x.shelf(MISS, 10);
        x.shelf(WAYS, 1);
        // 1, then 5 twice: 10 and 11, as 5 twice, then 1.
        rowIs(x, "b?1b5", 2, 0, 1, 2);
        // 2 twice, 0, 2 twice: 11, 10, 11; each pushes the other one out.
        rowIs(x, "c?0b2", 3, 1, 2, 0, 1, 2);
        rowIs(x, "c?0d2", 3, 1, 4, 0, 1, 4);
    }

    /** "- (nothing)": no LINE lies there by it. */
    private static void rowOfNothingWithin() {
        LongestRuns x = new LongestRuns();
        for (int line = 0; line < 7; line++) {
            rowIs(x, ";-?" + line + "7", 0);
            rowIs(x, ";d-?7" + line, 0, 0);
        }
    }

    /** All miss, so that no order costs more: the first by digits. */
    private static void rowInSetsWithoutRoom() {
        LongestRuns x = new LongestRuns();
        x.shelf(HELD, 16 + 64);
        rowIs(x, "d?02", 4, 0, 0, 0, 0);
        rowIs(x, "?0;02", 1);
        rowIs(x, "?;000", 0);
        rowIs(x, "?44", 0);
        rowIs(x, "?40", 1);
    }

    private static void rowWithoutTheToldOne() {
        LongestRuns x = Check.with("?0;01");
        Check.choose(x, 0, 3, 3);
        Check.due("the row that was told does not matter", x.row(0, 0), 1);
        Check.due("it stays", x.told(1), 3);
        Check.due("it is still taken", x.run(0, 4), 1);
    }

    /** "it is not told, if it has more than 20": 20 are told. */
    private static void rowOfTwenty() {
        LongestRuns x = Check.with(";dc?01;?23;?01?56");
        // 1 misses once, in the LOOP or behind it: behind it comes first by digits.
        int[] row = {4, 3, 0, 0, 0, 3, 0, 0, 0, 3, 0, 0, 0, 3, 0, 0, 0, 0, 1, 0};
        Check.due("how many", x.row(0, -1), 20);
        for (int i = 0; i < 20; i++) {
            Check.due("row " + i, x.row(0, i), row[i]);
        }
        Check.due("behind", x.row(0, 20), NONE);
        Check.due("below", x.row(0, -2), NONE);
        for (int i = 0; i < 20; i++) {
            x.choose(x.row(0, i));
        }
        Check.due("it takes 20", x.run(0, 3), 20);
        Check.due("it costs the most", x.run(0, 0), x.most(0, 0));
    }

    /** "STATE: it has more than 20". */
    private static void rowOfTwentyOne() {
        LongestRuns x = Check.with(";dc?01;?23;?01?56", ";dc?01;;?01?23;?45?67", "dd?01");
        int[] places = {-1, 0, 1, 19, 20, 21, 256, GREATEST, -2, LEAST};
        for (int i : places) {
            Check.due("row " + i + " of 21", x.row(1, i), STATE);
            Check.due("row " + i + " of 21", x.row(2, i), STATE);
        }
        Check.due("the one of 20", x.row(0, -1), 20);
        Check.due("worst is still told", x.most(2, 0), 20 + 14);
    }

    private static void rowOfManyMore() {
        LongestRuns x = Check.with("dddd0", "cccc0", "ddd?01", "cc;?01?23");
        for (int p = 0; p < 4; p++) {
            Check.due("row of " + p, x.row(p, -1), STATE);
            Check.due("row of " + p, x.row(p, 0), STATE);
        }
    }

    private static void programsOfARow() {
        LongestRuns x = Check.with("b0", "c0", "d0", "?0;01");
        int[] row = {2, 3, 4, 1};
        for (int p = 0; p < 4; p++) {
            Check.due("row of " + p, x.row(p, 0), row[p]);
        }
        int[] wrong = {-1, 4, 256, LEAST, GREATEST};
        for (int p : wrong) {
            Check.due("row of " + p, x.row(p, -1), UNKNOWN);
            Check.due("row of " + p, x.row(p, 99), UNKNOWN);
        }
    }
}
