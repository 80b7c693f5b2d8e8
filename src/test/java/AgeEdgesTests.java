/** Each sentence on ages, sorts and bounds that names an edge, by a test of its own. */
public final class AgeEdgesTests {
    private static final int UNKNOWN = -1, OUTSIDE = -2;
    private static final int LEAST = Integer.MIN_VALUE, GREATEST = Integer.MAX_VALUE;
    private static final int SETS = 0, WAYS = 1, MISS = 2, HELD = 3;
    private static final int MUST = 0, MAY = 1;
    private static final int ALWAYS = 0, NEVER = 1, ONCE = 2, UNSURE = 3;

    public static void main(String[] args) {
        atFirstTheRoom();
        heldOnesAreZeroAlways();
        heldOnesTakeNoPart();
        fetchedOneIsZero();
        lesserMustGrows();
        equalMustStays();
        greaterMustStays();
        equalMayGrows();
        greaterMayStays();
        mayGrowsToTheRoomAtMost();
        othersOfItsSetOnly();
        fetchWithoutRoom();
        behindAChoice();
        choiceOfNothing();
        bothTextsBeginAlike();
        nothingIsNoFetch();
        behindALoopDoneNoTimes();
        loopAgainAndAgain();
        loopWithinALoop();
        agesWithinALoopAreTheLast();
        linesOfAges();
        whatOfAges();
        nodesThatAreNoFetches();
        programsOfAges();
        alwaysJustBelowTheRoom();
        alwaysIfHeld();
        neverAtTheRoom();
        neverWithoutRoom();
        onceWithAsManyLinesAsRoom();
        onceCountsUnlikeLines();
        onceLeavesHeldOnesOut();
        onceCountsItsSetOnly();
        onceInSomeLoop();
        unsureWithoutALoop();
        boundOfEachKind();
        boundOfAFetch();
        boundIsGreatest();
        closerOfOnce();
        closerCountsUnlikeLines();
        closerByTheOutermostLoop();
        closerTimesLoopsAround();
        closerWithoutChoices();
        closerAtTheLeastMiss();
        neverBelowTheTruth();
        whatOfABound();
        Check.end();
    }

    private static void agesAre(String what, LongestRuns x, int node, int which, int... pairs) {
        for (int i = 0; i + 1 < pairs.length; i += 2) {
            int age = x.age(0, node, which, pairs[i]);
            Check.due(what + " of " + pairs[i] + " at " + node, age, pairs[i + 1]);
        }
    }

    /** "at first both are the ROOM for all". */
    private static void atFirstTheRoom() {
        int[][] shelves = {{2, 2, 10, 0}, {1, 2, 10, 0}, {4, 2, 10, 0}, {2, 1, 10, 0}, {4, 1, 10, 0}};
        for (int[] shelf : shelves) {
            LongestRuns x = Check.with("0");
            Check.shelve(x, shelf);
            for (int line = 0; line < 8; line++) {
                Check.due("must at first", x.age(0, 0, MUST, line), shelf[1]);
                Check.due("may at first", x.age(0, 0, MAY, line), shelf[1]);
            }
        }
        LongestRuns x = Check.with("0");
        x.shelf(HELD, 4 + 8 + 32);
        int[] first = {1, 0, 0, 0, 1, 0, 1, 0};
        for (int line = 0; line < 8; line++) {
            Check.due("must at first", x.age(0, 0, MUST, line), first[line]);
            Check.due("may at first", x.age(0, 0, MAY, line), first[line]);
        }
    }

    /** "of HELD ones both are 0 always". */
    private static void heldOnesAreZeroAlways() {
        LongestRuns x = Check.with(";;02;;460");
        x.shelf(HELD, 1 + 128);
        int[] nodes = {2, 3, 6, 7, 8};
        for (int node : nodes) {
            agesAre("held must", x, node, MUST, 0, 0, 7, 0);
            agesAre("held may", x, node, MAY, 0, 0, 7, 0);
        }
    }

    /** "they take no part": a FETCH of a HELD LINE makes no other one older. */
    private static void heldOnesTakeNoPart() {
        LongestRuns x = Check.with(";;20;20");
        x.shelf(HELD, 1);
        agesAre("must", x, 5, MUST, 2, 0, 4, 1, 0, 0);
        agesAre("may", x, 5, MAY, 2, 0, 4, 1, 0, 0);
        agesAre("must", x, 6, MUST, 2, 0);
        Check.due("2 hits", x.sort(0, 5), ALWAYS);
        x.shelf(HELD, 0);
        agesAre("must, as none is held", x, 5, MUST, 2, 1, 4, 2, 0, 0);
    }

    /** "its own is 0". */
    private static void fetchedOneIsZero() {
        LongestRuns x = Check.with(";;00;20");
        agesAre("must behind a miss", x, 3, MUST, 0, 0);
        agesAre("may behind a miss", x, 3, MAY, 0, 0);
        agesAre("must behind a hit", x, 5, MUST, 0, 0);
        agesAre("may behind a hit", x, 5, MAY, 0, 0);
        agesAre("must behind another one", x, 6, MUST, 0, 1, 2, 0);
        agesAre("may behind another one", x, 6, MAY, 0, 1, 2, 0);
    }

    /** "others of its SET with a MUST less than its own grow by one". */
    private static void lesserMustGrows() {
        LongestRuns x = Check.with(";;02;46");
        agesAre("behind 0", x, 3, MUST, 0, 0, 2, 2);
        agesAre("behind 0 2", x, 5, MUST, 0, 1, 2, 0, 4, 2);
        agesAre("behind 0 2 4", x, 6, MUST, 0, 2, 2, 1, 4, 0, 6, 2);
    }

    // Behind its CHOICE 0 and 2 have both a MUST of 1 and a MAY of 0.
    private static final String EQUAL = ";?;02;20;02";

    /** "with a MUST less than its own": one that is equal does not grow. */
    private static void equalMustStays() {
        LongestRuns x = Check.with(EQUAL);
        agesAre("ahead", x, 9, MUST, 0, 1, 2, 1);
        agesAre("behind 0", x, 10, MUST, 0, 0, 2, 1);
        Check.due("so 2 is always there", x.sort(0, 10), ALWAYS);
    }

    /** Of two WAYS a MUST that is greater is the ROOM: it stays so. */
    private static void greaterMustStays() {
        LongestRuns x = Check.with(";;02;22");
        agesAre("behind 0 2", x, 5, MUST, 0, 1, 2, 0);
        agesAre("behind 0 2 2", x, 6, MUST, 0, 1, 2, 0, 4, 2);
    }

    /** "others with a MAY no greater than its own grow by one": one that is equal, too. */
    private static void equalMayGrows() {
        LongestRuns x = Check.with(EQUAL);
        agesAre("ahead", x, 9, MAY, 0, 0, 2, 0, 4, 2);
        agesAre("behind 0", x, 10, MAY, 0, 0, 2, 1, 4, 2);
    }

    private static void greaterMayStays() {
        LongestRuns x = Check.with(";;02;24");
        agesAre("behind 0 2", x, 5, MAY, 0, 1, 2, 0);
        agesAre("behind 0 2 2", x, 6, MAY, 0, 1, 2, 0);
    }

    /** "(the ROOM at most)". */
    private static void mayGrowsToTheRoomAtMost() {
        LongestRuns x = Check.with(";;02;46");
        int[] nodes = {2, 3, 5, 6};
        for (int node : nodes) {
            agesAre("6 never fetched yet", x, node, MAY, 6, 2);
        }
        agesAre("0 is gone", x, 6, MAY, 0, 2);
        x.shelf(WAYS, 1);
        agesAre("of one way", x, 6, MAY, 0, 1, 2, 1, 4, 0, 6, 1);
        agesAre("of one way", x, 6, MUST, 0, 1, 2, 1, 4, 0, 6, 1);
    }

    private static void othersOfItsSetOnly() {
        LongestRuns x = Check.with(";;01;24");
        agesAre("two sets", x, 6, MUST, 0, 1, 1, 0, 2, 0, 3, 2);
        x.shelf(SETS, 4);
        agesAre("four sets", x, 6, MUST, 0, 0, 1, 0, 2, 0, 4, 2);
        x.shelf(SETS, 1);
        agesAre("one set", x, 6, MUST, 0, 2, 1, 1, 2, 0, 4, 2);
        agesAre("one set", x, 6, MAY, 0, 2, 1, 1, 2, 0, 4, 2);
    }

    /** "A FETCH of a LINE, if there is ROOM": else nothing changes. */
    private static void fetchWithoutRoom() {
        LongestRuns x = Check.with(";;02;10");
        x.shelf(HELD, 16 + 64);
        int[] nodes = {2, 3, 5, 6};
        for (int node : nodes) {
            agesAre("must", x, node, MUST, 0, 0, 2, 0, 4, 0, 6, 0);
            agesAre("may", x, node, MAY, 0, 0, 2, 0, 4, 0, 6, 0);
        }
        agesAre("the other set", x, 6, MUST, 1, 0, 3, 2);
        for (int node : nodes) {
            Check.due("sort at " + node, x.sort(0, node), NEVER);
        }
    }

    /** "Behind a CHOICE: of each LINE the greater MUST, the lesser MAY of both." */
    private static void behindAChoice() {
        LongestRuns x = Check.with(";?;02;136");
        agesAre("greater must", x, 8, MUST, 0, 2, 2, 2, 1, 2, 3, 2);
        agesAre("lesser may", x, 8, MAY, 0, 1, 2, 0, 1, 1, 3, 0, 4, 2);
        Check.write(x, 0, ";?;13;026");
        agesAre("greater must", x, 8, MUST, 0, 2, 2, 2, 1, 2, 3, 2);
        agesAre("lesser may", x, 8, MAY, 0, 1, 2, 0, 1, 1, 3, 0, 4, 2);
    }

    private static void choiceOfNothing() {
        String[] texts = {";0;?-20", ";0;?2-0"};
        for (String text : texts) {
            LongestRuns x = Check.with(text);
            agesAre(text + " must", x, 6, MUST, 0, 1, 2, 2);
            agesAre(text + " may", x, 6, MAY, 0, 0, 2, 0);
        }
    }

    /** What the first text of a CHOICE fetches does not lie there as the second one begins. */
    private static void bothTextsBeginAlike() {
        String[] texts = {"?00", "?b00", "??000", "?;000", ";2?b00"};
        for (String text : texts) {
            LongestRuns x = Check.with(text);
            int last = text.length() - 1;
            agesAre(text + " must", x, last, MUST, 0, 2);
            agesAre(text + " may", x, last, MAY, 0, 2);
            Check.due(text, x.sort(0, last), NEVER);
        }
    }

    private static void nothingIsNoFetch() {
        for (int line = 0; line < 8; line++) {
            LongestRuns x = Check.with(";;-d-;-" + line);
            int last = x.told(20) - 1;
            agesAre("must", x, last, MUST, line, 2);
            agesAre("may", x, last, MAY, line, 2);
            Check.due("sort", x.sort(0, last), NEVER);
        }
    }

    /** "what comes in, joined with what its text leaves of it": so it is behind the LOOP. */
    private static void behindALoopDoneNoTimes() {
        LongestRuns x = Check.with(";b02", ";0;d00");
        agesAre("must", x, 3, MUST, 0, 2, 2, 2);
        agesAre("may", x, 3, MAY, 0, 0, 2, 2);
        Check.due("0 was there ahead of it", x.age(1, 5, MUST, 0), 0);
        Check.due("0 was there ahead of it", x.sort(1, 5), ALWAYS);
    }

    /** "again and again, till nothing changes". */
    private static void loopAgainAndAgain() {
        LongestRuns x = Check.with(";0;d?240");
        // Once 2 or 4: 0 is 1; twice: 0 is gone.
        agesAre("must", x, 7, MUST, 0, 2, 2, 2, 4, 2);
        agesAre("may", x, 7, MAY, 0, 0, 2, 0, 4, 0);
        Check.write(x, 0, ";0;d20");
        // 2 may not lie there each time: so 0 is taken to grow older each time.
        agesAre("one other line", x, 5, MUST, 0, 2, 2, 2);
        agesAre("one other line", x, 5, MAY, 0, 0, 2, 0);
        Check.write(x, 0, ";0;d-0");
        agesAre("nothing changes", x, 5, MUST, 0, 0);
        agesAre("nothing changes", x, 5, MAY, 0, 0);
    }

    private static void loopWithinALoop() {
        LongestRuns x = Check.with("b;b02", "dddd0", "c;0b?24");
        agesAre("ahead of 0", x, 3, MUST, 0, 2, 2, 2);
        agesAre("ahead of 0", x, 3, MAY, 0, 0, 2, 0);
        agesAre("ahead of 2", x, 4, MUST, 0, 2, 2, 2);
        agesAre("ahead of 2", x, 4, MAY, 0, 0, 2, 0);
        Check.due("deep", x.age(1, 4, MUST, 0), 2);
        Check.due("deep", x.age(1, 4, MAY, 0), 0);
        Check.due("2 and 4 push 0 out", x.age(2, 5, MUST, 0), 2);
        Check.due("or it was fetched just now", x.age(2, 5, MAY, 0), 0);
        Check.due("2 was fetched just now", x.age(2, 5, MAY, 2), 0);
        Check.due("ahead of 0, too", x.age(2, 2, MAY, 2), 0);
    }

    /** "so it is ahead of its text": not as it was when first come to. */
    private static void agesWithinALoopAreTheLast() {
        LongestRuns x = Check.with("d;02", ";0d;02");
        agesAre("must", x, 2, MUST, 0, 2, 2, 2);
        agesAre("may", x, 2, MAY, 0, 1, 2, 0);
        agesAre("must", x, 3, MUST, 0, 0, 2, 2);
        agesAre("may", x, 3, MAY, 0, 0, 2, 1);
        Check.due("joined with 0 ahead", x.age(1, 4, MUST, 0), 1);
        Check.due("joined with 0 ahead", x.age(1, 4, MAY, 0), 0);
    }

    /** "UNKNOWN -1 (there is no such .. LINE)". */
    private static void linesOfAges() {
        LongestRuns x = Check.with("0");
        for (int line = 0; line < 8; line++) {
            Check.due("line " + line, x.age(0, 0, MUST, line), 2);
        }
        int[] wrong = {-1, 8, 9, 16, 256, LEAST, GREATEST};
        for (int line : wrong) {
            Check.due("line " + line, x.age(0, 0, MUST, line), UNKNOWN);
            Check.due("line " + line, x.age(0, 0, MAY, line), UNKNOWN);
        }
    }

    /** "MUST (what = 0), MAY (1) .. OUTSIDE". */
    private static void whatOfAges() {
        LongestRuns x = Check.with(";?0-0");
        Check.due("must", x.age(0, 4, 0, 0), 2);
        Check.due("may", x.age(0, 4, 1, 0), 0);
        int[] wrong = {-1, 2, 3, 256, LEAST, GREATEST};
        for (int what : wrong) {
            Check.due("what " + what, x.age(0, 4, what, 0), OUTSIDE);
        }
    }

    /** "UNKNOWN: also the NODE is no FETCH", "UNKNOWN, likewise". */
    private static void nodesThatAreNoFetches() {
        LongestRuns x = Check.with(";;b0c1?d2-");
        int[] fetches = {3, 5, 8};
        int[] others = {0, 1, 2, 4, 6, 7, 9};
        int[] beyond = {-1, 10, 29, 30, 31, 256, LEAST, GREATEST};
        for (int node : fetches) {
            Check.due("age at " + node, x.age(0, node, MUST, 0) >= 0 ? 1 : 0, 1);
            Check.due("sort at " + node, x.sort(0, node), ONCE);
        }
        for (int node : others) {
            Check.due("age at " + node, x.age(0, node, MUST, 0), UNKNOWN);
            Check.due("sort at " + node, x.sort(0, node), UNKNOWN);
        }
        for (int node : beyond) {
            Check.due("age at " + node, x.age(0, node, MUST, 0), UNKNOWN);
            Check.due("sort at " + node, x.sort(0, node), UNKNOWN);
        }
    }

    private static void programsOfAges() {
        LongestRuns x = Check.with("0", ";01", "2", "3");
        for (int p = 0; p < 4; p++) {
            int node = p == 1 ? 2 : 0;
            Check.due("age in " + p, x.age(p, node, MUST, 0), p == 1 ? 0 : 2);
            Check.due("sort in " + p, x.sort(p, node), NEVER);
        }
        int[] wrong = {-1, 4, 256, LEAST, GREATEST};
        for (int p : wrong) {
            Check.due("age in " + p, x.age(p, 0, MUST, 0), UNKNOWN);
            Check.due("sort in " + p, x.sort(p, 0), UNKNOWN);
            Check.due("bound of " + p, x.bound(p, 0), UNKNOWN);
        }
    }

    /** "0 ALWAYS: its MUST is less than the ROOM". */
    private static void alwaysJustBelowTheRoom() {
        LongestRuns x = Check.with(";;020", ";;02;40");
        agesAre("one less than the room", x, 4, MUST, 0, 1);
        Check.due("always", x.sort(0, 4), ALWAYS);
        Check.due("the room", x.age(1, 6, MUST, 0), 2);
        Check.due("not always", x.sort(1, 6), NEVER);
        Check.write(x, 0, ";00");
        x.shelf(WAYS, 1);
        Check.due("one way", x.sort(0, 2), ALWAYS);
        Check.due("one way", x.sort(0, 1), NEVER);
    }

    /** "(or it is HELD)": also as the first FETCH, also in a SET without ROOM. */
    private static void alwaysIfHeld() {
        LongestRuns x = Check.with(";;02;40");
        x.shelf(HELD, 1);
        Check.due("with room", x.sort(0, 2), ALWAYS);
        x.shelf(HELD, 1 + 64);
        Check.due("without room", x.sort(0, 2), ALWAYS);
        Check.due("without room, last", x.sort(0, 6), ALWAYS);
        Check.due("another one", x.sort(0, 3), NEVER);
    }

    /** "1 NEVER: else, if its MAY is the ROOM". */
    private static void neverAtTheRoom() {
        LongestRuns x = Check.with("0", ";;02;40", ";?020", "d;0;24");
        Check.due("the first", x.sort(0, 0), NEVER);
        Check.due("gone", x.sort(1, 6), NEVER);
        Check.due("it may be there", x.sort(2, 4), UNSURE);
        Check.due("three in turn", x.sort(3, 2), NEVER);
        Check.due("three in turn", x.sort(3, 5), NEVER);
    }

    private static void neverWithoutRoom() {
        LongestRuns x = Check.with("d0", "d1");
        x.shelf(HELD, 4 + 16);
        Check.due("no room", x.sort(0, 1), NEVER);
        Check.due("bound", x.bound(0, 0), 40);
        Check.due("closer", x.bound(0, 1), 40);
        Check.due("the other set", x.sort(1, 1), ONCE);
    }

    /** "no more unlike LINES of its SET .. are fetched than its SET has ROOM for". */
    private static void onceWithAsManyLinesAsRoom() {
        LongestRuns x = Check.with("d;02", "d?;024", "d0", "d?02");
        Check.due("two of two", x.sort(0, 2), ONCE);
        Check.due("two of two", x.sort(0, 3), ONCE);
        Check.due("three of two", x.sort(1, 3), UNSURE);
        Check.due("three of two", x.sort(1, 5), UNSURE);
        Check.due("one of two", x.sort(2, 1), ONCE);
        x.shelf(WAYS, 1);
        Check.due("one of one", x.sort(2, 1), ONCE);
        Check.due("two of one", x.sort(3, 2), UNSURE);
        Check.due("two of one, in turn", x.sort(0, 2), NEVER);
    }

    private static void onceCountsUnlikeLines() {
        LongestRuns x = Check.with("d?;0;020", "d?;0;024");
        Check.due("0 and 2, some of them again", x.sort(0, 3), ONCE);
        Check.due("0 and 2, some of them again", x.sort(0, 5), ALWAYS);
        Check.due("0 and 2, some of them again", x.sort(0, 6), ONCE);
        Check.due("0 and 2, some of them again", x.sort(0, 7), ONCE);
        Check.due("4 too", x.sort(1, 3), UNSURE);
    }

    /** "(HELD ones left out)". */
    private static void onceLeavesHeldOnesOut() {
        LongestRuns x = Check.with("d?02", "d?0?24");
        x.shelf(HELD, 1);
        Check.due("held", x.sort(0, 2), ALWAYS);
        Check.due("2 alone of one", x.sort(0, 3), ONCE);
        Check.due("2 and 4 of one", x.sort(1, 4), UNSURE);
        x.shelf(HELD, 64);
        Check.due("0 and 2 of one", x.sort(0, 2), UNSURE);
        x.shelf(HELD, 1 + 4);
        Check.due("4 of none", x.sort(1, 5), NEVER);
    }

    private static void onceCountsItsSetOnly() {
        LongestRuns x = Check.with("d?;02;13", "d??01?23");
        int[] nodes = {3, 4, 6, 7};
        for (int node : nodes) {
            Check.due("two of each set at " + node, x.sort(0, node), ONCE);
        }
        x.shelf(SETS, 1);
        Check.due("four of one set", x.sort(1, 3), UNSURE);
        x.shelf(SETS, 4);
        Check.due("one of each set", x.sort(1, 3), ONCE);
    }

    /** "if in some LOOP around it": an inner or an outer one; none beside it. */
    private static void onceInSomeLoop() {
        LongestRuns x = Check.with("d;b;02b;46", "bc0", ";d0?02", ";b0;b?020");
        Check.due("an inner one", x.sort(0, 4), ONCE);
        Check.due("both", x.sort(1, 2), ONCE);
        Check.due("beside it", x.sort(2, 4), UNSURE);
        Check.due("behind it", x.sort(3, 8), UNSURE);
        Check.due("2 ahead of another one", x.sort(3, 6), ONCE);
    }

    /** "3 UNSURE: else". */
    private static void unsureWithoutALoop() {
        LongestRuns x = Check.with(";?0-0", ";b00");
        Check.due("no loop around it", x.sort(0, 4), UNSURE);
        Check.due("a loop ahead of it", x.sort(1, 3), UNSURE);
        Check.due("it costs a miss", x.bound(0, 0), 20);
        Check.due("it costs a miss", x.bound(0, 1), 20);
    }

    private static void boundsAre(String text, int bound, int closer) {
        LongestRuns x = Check.with(text);
        Check.due("bound of " + text, x.bound(0, 0), bound);
        Check.due("closer of " + text, x.bound(0, 1), closer);
    }

    /** "a FETCH: ..; a CHOICE: the greater one; a LOOP: so many times its text's". */
    private static void boundOfEachKind() {
        boundsAre("-", 0, 0);
        boundsAre("0", 10, 10);
        boundsAre(";--", 0, 0);
        boundsAre(";01", 20, 20);
        boundsAre("?0;13", 20, 20);
        boundsAre("?;130", 20, 20);
        boundsAre("?-0", 10, 10);
        boundsAre("b0", 20, 2 + 9);
        boundsAre("c0", 30, 3 + 9);
        boundsAre("d0", 40, 4 + 9);
        boundsAre("d-", 0, 0);
    }

    /** "1, if ALWAYS; else MISS". */
    private static void boundOfAFetch() {
        boundsAre(";00", 11, 11);
        boundsAre(";;02;40", 40, 40);
        boundsAre(";?0-0", 20, 20);
        boundsAre(";b00", 30, 2 + 9 + 10);
        LongestRuns x = Check.with("0");
        x.shelf(HELD, 1);
        Check.due("held", x.bound(0, 0), 1);
        Check.due("held", x.bound(0, 1), 1);
    }

    private static void boundIsGreatest() {
        LongestRuns x = Check.with("dddd0");
        x.shelf(MISS, 20);
        Check.due("bound", x.bound(0, 0), 256 * 20);
        Check.due("closer", x.bound(0, 1), 256 + 19);
    }

    /** "a FETCH which is ONCE costs 1 there; and besides .. MISS less 1". */
    private static void closerOfOnce() {
        boundsAre("d;02", 80, 8 + 18);
        boundsAre("d;0;20", 4 * 21, 12 + 18);
        boundsAre("b;01", 40, 4 + 18);
    }

    /** "for each unlike LINE of these". */
    private static void closerCountsUnlikeLines() {
        boundsAre("d?00", 40, 4 + 9);
        boundsAre("d?02", 40, 4 + 18);
        // The second 0 is ALWAYS there; 2 and the first 0 are ONCE.
        boundsAre("d;0?02", 80, 8 + 18);
    }

    /** "each LOOP that is the outermost such one of some FETCHES which are ONCE". */
    private static void closerByTheOutermostLoop() {
        boundsAre("dc0", 120, 12 + 9);
        boundsAre("dddd0", 2560, 256 + 9);
        // The inner LOOP alone has ROOM for 0 and 2; the outer one fetches 4, too.
        boundsAre("d;4c;02", 4 * (10 + 60), 4 * (10 + 6) + 4 * 18);
        // 0 is ONCE by the outer LOOP, though it stands in an inner one.
        boundsAre("d;1c0", 4 * 40, 4 * 4 + 18);
    }

    /** "how many times each LOOP around it is done at most, all multiplied". */
    private static void closerTimesLoopsAround() {
        boundsAre("b;4c;02", 2 * 70, 2 * 16 + 2 * 18);
        boundsAre("c;4c;02", 3 * 70, 3 * 16 + 3 * 18);
        boundsAre("bc;4d0", 6 * 50, 6 * 5 + 18);
        boundsAre("b;2;4c0", 2 * (10 + 10 + 30), 2 * (20 + 3) + 2 * 9);
        boundsAre(";d0d0", 80, 4 + 9 + 4 + 9);
    }

    /** "CHOICES around it do not matter". */
    private static void closerWithoutChoices() {
        boundsAre("?d0-", 40, 4 + 9);
        boundsAre("?d0d1", 40, 4 + 9 + 9);
        boundsAre("?-?-d0", 40, 4 + 9);
        boundsAre("b?c;024", 2 * 60, 2 * 10 + 2 * 18);
    }

    private static void closerAtTheLeastMiss() {
        LongestRuns x = Check.with("d;02");
        x.shelf(MISS, 2);
        Check.due("bound", x.bound(0, 0), 16);
        Check.due("closer", x.bound(0, 1), 8 + 2);
        x.shelf(MISS, 20);
        Check.due("bound", x.bound(0, 0), 160);
        Check.due("closer", x.bound(0, 1), 8 + 38);
    }

    /** "bounds by these, never below the truth". */
    private static void neverBelowTheTruth() {
        String[] texts = {"-", "0", "d0", "d;02", "d;0;24", "?d0d1", "d;4c;02", EQUAL, "dd?02"};
        for (String text : texts) {
            for (int ways = 1; ways <= 2; ways++) {
                LongestRuns x = Check.with(text);
                x.shelf(WAYS, ways);
                int worst = x.most(0, 0);
                Check.holds("bound of " + text, x.bound(0, 0) >= worst);
                Check.holds("closer of " + text, x.bound(0, 1) >= worst);
            }
        }
    }

    /** "BOUND (what = 0), CLOSER (1). .. OUTSIDE". */
    private static void whatOfABound() {
        LongestRuns x = Check.with("d0");
        Check.due("bound", x.bound(0, 0), 40);
        Check.due("closer", x.bound(0, 1), 13);
        int[] wrong = {-1, 2, 3, 256, LEAST, GREATEST};
        for (int what : wrong) {
            Check.due("what " + what, x.bound(0, what), OUTSIDE);
        }
    }
}
