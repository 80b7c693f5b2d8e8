/** Each promise by itself: ordinary inputs, the edges that the document names, wrong inputs. */
public final class PromiseTests {
    private static final int NONE = -6, UNKNOWN = -1, OUTSIDE = -2, STATE = -3, FULL = -4, NO = -5;
    private static final int LEAST = Integer.MIN_VALUE, GREATEST = Integer.MAX_VALUE;

    public static void main(String[] args) {
        constants();
        newObject();
        shelf();
        shelfRefuses();
        say();
        wipe();
        fault();
        program();
        node();
        choose();
        forget();
        run();
        runHeld();
        runTooManyChoices();
        most();
        mostHeld();
        row();
        rowTies();
        rowTooLong();
        ages();
        agesJoin();
        agesLoop();
        agesHeld();
        sorts();
        bounds();
        closer();
        fast();
        crowd();
        period();
        breaks();
        done();
        late();
        lateByMiss();
        images();
        told();
        Check.end();
    }

    private static void constants() {
        Check.due("NONE", LongestRuns.NONE, -6);
        Check.due("UNKNOWN", LongestRuns.UNKNOWN, -1);
        Check.due("OUTSIDE", LongestRuns.OUTSIDE, -2);
        Check.due("STATE", LongestRuns.STATE, -3);
        Check.due("FULL", LongestRuns.FULL, -4);
        Check.due("NO", LongestRuns.NO, -5);
    }

    private static void newObject() {
        LongestRuns x = new LongestRuns();
        for (int p = 0; p < 4; p++) {
            Check.due("1 nodes", x.told(20 + p), 1);
            Check.due("1 sign", x.node(p, 0, 0), '-');
            Check.due("1 size", x.node(p, 0, 1), 1);
            Check.due("1 period", x.told(10 + p), 0);
            Check.due("1 crowd", x.crowd(p), 0);
            Check.due("1 done", x.done(p), STATE);
        }
        int[] told = {0, 0, 2, 2, 10, 0};
        for (int what = 0; what < told.length; what++) {
            Check.due("1 told " + what, x.told(what), told[what]);
        }
    }

    private static void shelf() {
        LongestRuns x = new LongestRuns();
        Check.due("2 sets", x.shelf(0, 4), 2);
        Check.due("2 sets", x.shelf(0, 1), 4);
        Check.due("2 sets", x.shelf(0, 2), 1);
        Check.due("2 ways", x.shelf(1, 1), 2);
        Check.due("2 ways", x.shelf(1, 2), 1);
        Check.due("2 miss", x.shelf(2, 2), 10);
        Check.due("2 miss", x.shelf(2, 20), 2);
        Check.due("2 held", x.shelf(3, 15), 0);
        Check.due("2 held", x.shelf(3, 240), 15);
        Check.due("2 told", x.told(5), 240);
        Check.due("2 more sets", x.shelf(0, 4), 2);
        Check.due("2 all held", x.shelf(3, 255), 240);
    }

    private static void shelfRefuses() {
        LongestRuns x = new LongestRuns();
        int[][] wrong = {{0, 0}, {0, 3}, {0, 5}, {0, 8}, {0, -1}, {0, LEAST}, {1, 0}, {1, 3}, {1, 4},
            {1, -2}, {2, 1}, {2, 21}, {2, -10}, {3, -1}, {3, 256}, {3, LEAST}, {3, GREATEST},
            {-1, 2}, {4, 2}, {LEAST, 2}, {GREATEST, 2}};
        for (int[] call : wrong) {
            Check.due("2 outside", x.shelf(call[0], call[1]), OUTSIDE);
        }
        Check.due("2 three of a set", x.shelf(3, 1 + 4 + 16), NO);
        Check.due("2 two of a set", x.shelf(3, 1 + 16), 0);
        Check.due("2 fewer ways", x.shelf(1, 1), NO);
        Check.due("2 two ways stay", x.told(3), 2);
        Check.due("2 held", x.shelf(3, 1 + 2 + 4), 17);
        Check.due("2 fewer sets", x.shelf(0, 1), NO);
        Check.due("2 two sets stay", x.told(2), 2);
        Check.due("2 more sets", x.shelf(0, 4), 2);
        Check.due("2 fewer ways", x.shelf(1, 1), 2);
        Check.due("2 back to two sets", x.shelf(0, 2), NO);
        Check.due("2 wrong and too many", x.shelf(3, 256 + 255), OUTSIDE);
    }

    private static void say() {
        LongestRuns x = new LongestRuns();
        Check.due("3 outside", x.say(32), OUTSIDE);
        Check.due("3 outside", x.say(127), OUTSIDE);
        Check.due("3 outside", x.say(LEAST), OUTSIDE);
        Check.due("3 outside", x.say(GREATEST), OUTSIDE);
        for (int i = 1; i <= 30; i++) {
            Check.due("3 how many", x.say(i % 2 == 0 ? 33 : 126), i);
        }
        Check.due("3 full", x.say(48), FULL);
        Check.due("3 outside comes ahead of full", x.say(32), OUTSIDE);
        Check.due("3 signs", x.told(0), 30);
    }

    private static void wipe() {
        LongestRuns x = new LongestRuns();
        Check.due("4 none", x.wipe(), 0);
        Check.say(x, ";0");
        Check.due("4 two", x.wipe(), 2);
        Check.due("4 none left", x.told(0), 0);
        Check.due("4 say again", x.say('1'), 1);
        Check.due("4 the old ones are gone", x.program(0), 1);
        Check.due("4 sign", x.node(0, 0, 0), '1');
    }

    private static void fault() {
        String[] texts = {"", "0", "7", "8", "-", "a", "e", "b", "b0", "c-", "d7", ";", ";0", ";01",
            ";012", "?0", "?01", "00", "bbbb0", "bbbbb0", "bbbb-", "bbbb;01", "bbbb?01", ";;;;01234",
            ";;;;;", ";0;0;0;01", ";0;0;0;0;", ";0;0;0;0x", "?;01x", "d;0!2", ";0;0;0;", "~"};
        int[] faults = {0, NONE, NONE, 0, NONE, 0, 0, 1, NONE, NONE, NONE, 1, 2, NONE,
            3, 2, NONE, 1, NONE, 4, NONE, 4, 4, NONE,
            4, NONE, 8, 8, 4, 3, 7, 0};
        for (int i = 0; i < texts.length; i++) {
            LongestRuns x = new LongestRuns();
            Check.say(x, texts[i]);
            Check.due("5 fault of '" + texts[i] + "'", x.fault(), faults[i]);
            Check.due("5 pad stays", x.told(0), texts[i].length());
            Check.due("6 '" + texts[i] + "'", x.program(1), faults[i] == NONE ? texts[i].length() : NO);
        }
    }

    private static void program() {
        LongestRuns x = new LongestRuns();
        Check.due("6 nothing on the pad", x.program(0), NO);
        Check.due("6 unknown", x.program(-1), UNKNOWN);
        Check.due("6 unknown", x.program(4), UNKNOWN);
        Check.due("6 unknown", x.program(LEAST), UNKNOWN);
        Check.due("6 unknown", x.program(GREATEST), UNKNOWN);
        Check.say(x, ";0");
        Check.due("6 no", x.program(3), NO);
        Check.due("6 signs stay", x.told(0), 2);
        Check.due("6 program stays", x.told(23), 1);
        x.say('d');
        x.say('5');
        Check.due("6 nodes", x.program(3), 4);
        Check.due("6 pad is empty", x.told(0), 0);
        Check.due("6 nodes", x.told(23), 4);
        Check.due("6 others stay", x.told(22), 1);
        Check.say(x, "?-6");
        Check.due("6 another", x.program(3), 3);
        Check.due("6 sign", x.node(3, 0, 0), '?');
        Check.due("6 no fourth", x.node(3, 3, 0), UNKNOWN);
        Check.write(x, 0, ";;;;01;23;;45;67;;;01;23;;45d6");
        Check.due("6 the longest", x.told(20), 30);
    }

    private static void node() {
        LongestRuns x = Check.with("?;0d1c-");
        int[] sizes = {7, 4, 1, 2, 1, 2, 1};
        String signs = "?;0d1c-";
        for (int i = 0; i < sizes.length; i++) {
            Check.due("7 sign", x.node(0, i, 0), signs.charAt(i));
            Check.due("7 size", x.node(0, i, 1), sizes[i]);
        }
        Check.due("7 node", x.node(0, 7, 0), UNKNOWN);
        Check.due("7 node", x.node(0, -1, 0), UNKNOWN);
        Check.due("7 node", x.node(0, LEAST, 1), UNKNOWN);
        Check.due("7 node", x.node(0, GREATEST, 1), UNKNOWN);
        Check.due("7 program", x.node(4, 0, 0), UNKNOWN);
        Check.due("7 program", x.node(-1, 0, 0), UNKNOWN);
        Check.due("7 what", x.node(0, 0, 2), OUTSIDE);
        Check.due("7 what", x.node(0, 0, -1), OUTSIDE);
        Check.due("7 unknown first", x.node(0, 7, 2), UNKNOWN);
    }

    private static void choose() {
        LongestRuns x = new LongestRuns();
        Check.due("8 outside", x.choose(-1), OUTSIDE);
        Check.due("8 outside", x.choose(10), OUTSIDE);
        Check.due("8 outside", x.choose(LEAST), OUTSIDE);
        for (int i = 1; i <= 20; i++) {
            Check.due("8 how many", x.choose(i % 10), i);
        }
        Check.due("8 full", x.choose(0), FULL);
        Check.due("8 outside first", x.choose(10), OUTSIDE);
        Check.due("8 twenty", x.told(1), 20);
    }

    private static void forget() {
        LongestRuns x = Check.with("?01");
        Check.due("9 none", x.forget(), 0);
        x.choose(1);
        x.choose(1);
        Check.due("9 run", x.run(0, 4), 2);
        Check.due("9 two", x.forget(), 2);
        Check.due("9 run", x.run(0, 4), 1);
        Check.due("9 told", x.told(1), 0);
    }

    private static void run() {
        LongestRuns x = Check.with("c?;02;;246", ";0;2;0;42");
        Check.choose(x, 7, 9, 4, 1);
        // Three times: 2 4 6, then 0 2, then 2 4 6: the last 2 is there.
        runs("10 loop", x, 0, 7 * 10 + 1, 8, 7, 4, 16 + 64);
        Check.choose(x, 6, 1, 0);
        // Twice: 2 4 6, then 0 2.
        runs("10 two times", x, 0, 50, 5, 5, 3, 1 + 4);
        Check.choose(x);
        runs("10 none", x, 0, 0, 0, 0, 1, 0);
        Check.choose(x, 3);
        // Behind the row's end: three times the first text.
        runs("10 behind the end", x, 0, 20 + 4, 6, 2, 4, 1 + 4);
        // 0 2 0 4 2: the 0 is the newest again, so 2 goes for 4, then 0 for 2.
        runs("10 a hit makes it the newest", x, 1, 10 + 10 + 1 + 10 + 10, 5, 4, 0, 4 + 16);
        x.shelf(2, 3);
        runs("10 miss", x, 1, 3 + 3 + 1 + 3 + 3, 5, 4, 0, 4 + 16);
        x.shelf(1, 1);
        runs("10 one way", x, 1, 15, 5, 5, 0, 4);
        x.shelf(0, 4);
        runs("10 four sets", x, 1, 3 + 3 + 1 + 3 + 1, 5, 3, 0, 4 + 16);
        Check.due("10 program", x.run(4, 0), UNKNOWN);
        Check.due("10 program", x.run(-1, 9), UNKNOWN);
        Check.due("10 what", x.run(0, 5), OUTSIDE);
        Check.due("10 what", x.run(0, -1), OUTSIDE);
    }

    private static void runs(String what, LongestRuns x, int p, int... want) {
        for (int i = 0; i < want.length; i++) {
            Check.due(what + ": run(" + p + ", " + i + ")", x.run(p, i), want[i]);
        }
    }

    private static void runHeld() {
        LongestRuns x = Check.with(";;02;02", ";;13;13");
        x.shelf(3, 1 + 4);
        runs("10 held", x, 0, 4, 4, 0, 0, 5);
        runs("10 held ones lie there", x, 1, 22, 4, 2, 0, 5 + 2 + 8);
        x.shelf(3, 16 + 2 + 8);
        runs("10 one way is taken", x, 0, 40, 4, 4, 0, 16 + 2 + 8 + 4);
        x.shelf(3, 32 + 128);
        runs("10 no room at all", x, 1, 40, 4, 4, 0, 32 + 128);
    }

    private static void runTooManyChoices() {
        LongestRuns x = Check.with("dd?01");
        Check.choose(x, 9, 4, 1, 1, 1, 1, 4, 1, 1, 1, 1, 4, 1, 1, 1, 1, 4, 1, 1, 1);
        // Four times four: the last of 1 + 4 + 16 CHOICES lies behind the row, and takes 0.
        runs("10 behind twenty", x, 0, 10 + 14 + 10, 16, 2, 21, 3);
    }

    private static void most() {
        LongestRuns x = Check.with("?;02;;024", "d?0?12", "-", "ccc?05");
        mosts("11 choice", x, 0, 30, 20, 2);
        // 0, 1, 2 in any order: empty; set 0: 0, 2, 02, 20; set 1 with or without 1.
        mosts("11 all", x, 1, 10 + 10 + 10 + 1, 0, 10);
        mosts("11 nothing", x, 2, 0, 0, 1);
        mosts("11 deep", x, 3, 25 + 20, 0, 4);
        x.shelf(0, 1);
        x.shelf(1, 1);
        mosts("11 one line", x, 3, 27 * 10, 0, 3);
        x.shelf(1, 2);
        mosts("11 two lines", x, 3, 25 + 20, 0, 5);
        Check.due("11 program", x.most(4, 0), UNKNOWN);
        Check.due("11 program", x.most(-1, 7), UNKNOWN);
        Check.due("11 what", x.most(0, 3), OUTSIDE);
        Check.due("11 what", x.most(0, -1), OUTSIDE);
    }

    private static void mosts(String what, LongestRuns x, int p, int... want) {
        for (int i = 0; i < want.length; i++) {
            Check.due(what + ": most(" + p + ", " + i + ")", x.most(p, i), want[i]);
        }
    }

    private static void mostHeld() {
        LongestRuns x = Check.with("?;02;20", "d;02");
        mosts("11 order matters", x, 0, 20, 20, 2);
        x.shelf(3, 1);
        mosts("11 a held one has no place in the order", x, 0, 11, 11, 1);
        mosts("11 held", x, 1, 4 + 13, 0, 2);
        x.shelf(3, 16 + 64);
        mosts("11 no room", x, 1, 80, 0, 1);
    }

    private static void row() {
        LongestRuns x = Check.with("?0;02", ";?01c?-2", "-");
        rowIs("12 one", x, 0, 1);
        // Each way costs 10 for 0 or 1, then 2 three times.
        rowIs("12 first by digits", x, 1, 0, 3, 1, 1, 1);
        rowIs("12 none", x, 2);
        Check.due("12 below", x.row(0, -2), NONE);
        Check.due("12 below", x.row(0, LEAST), NONE);
        Check.due("12 above", x.row(0, GREATEST), NONE);
        Check.due("12 program", x.row(4, -1), UNKNOWN);
        Check.due("12 program", x.row(-1, -1), UNKNOWN);
    }

    private static void rowIs(String what, LongestRuns x, int p, int... digits) {
        Check.due(what + ": how many", x.row(p, -1), digits.length);
        Check.choose(x, digits);
        for (int i = 0; i < digits.length; i++) {
            Check.due(what + ": " + i, x.row(p, i), digits[i]);
        }
        Check.due(what + ": behind", x.row(p, digits.length), NONE);
        Check.due(what + ": costs the most", x.run(p, 0), x.most(p, 0));
        Check.due(what + ": takes so many", x.run(p, 3), digits.length);
    }

    private static void rowTies() {
        LongestRuns x = Check.with("d-", "?--", "b?;02;20", ";?02;4;02");
        rowIs("12 a loop of nothing", x, 0, 0);
        rowIs("12 two of nothing", x, 1, 0);
        // 0 2, then 2 0 would hit: 0 2 0 2 hits too; the first by digits of 22 is 2 0 0.
        rowIs("12 ties", x, 2, 2, 0, 0);
        // 0 4 0 2: 31; 2 4 0 2: 40.
        rowIs("12 not the first text", x, 3, 1);
        x.shelf(1, 1);
        rowIs("12 one way", x, 2, 2, 0, 0);
        x.shelf(3, 5 & 1);
        rowIs("12 held", x, 2, 2, 0, 0);
    }

    private static void rowTooLong() {
        LongestRuns x = Check.with("dc?01", "dd?01", "cc;?01?23", "dddd-");
        // 1 + 4 + 12 are still told.
        Check.due("12 seventeen", x.row(0, -1), 17);
        Check.due("12 more than 20", x.row(1, -1), STATE);
        Check.due("12 more than 20", x.row(1, 0), STATE);
        Check.due("12 more than 20", x.row(1, -2), STATE);
        Check.due("12 more than 20", x.row(1, 99), STATE);
        Check.due("12 more than 20", x.row(2, -1), STATE);
        Check.due("12 worst is told all the same", x.most(1, 0), 34);
        Check.due("12 nothing is gained", x.row(3, -1), 1);
        Check.write(x, 0, ";dc?01;?23;?01?56");
        Check.due("12 twenty", x.row(0, -1), 20);
        Check.write(x, 0, ";dc?01;;?01?23;?45?67");
        Check.due("12 twenty-one", x.row(0, -1), STATE);
    }

    private static void ages() {
        LongestRuns x = Check.with(";0;2;4;20", ";1;3;13");
        // Ages of 0, 2, 4, 6 ahead of each FETCH: there are no CHOICES, so MUST and MAY are one.
        int[][] want = {{2, 2, 2, 2}, {0, 2, 2, 2}, {1, 0, 2, 2}, {2, 1, 0, 2}, {2, 0, 1, 2}};
        int[] nodes = {1, 3, 5, 7, 8};
        for (int i = 0; i < nodes.length; i++) {
            for (int line = 0; line < 8; line += 2) {
                Check.due("13 must", x.age(0, nodes[i], 0, line), want[i][line / 2]);
                Check.due("13 may", x.age(0, nodes[i], 1, line), want[i][line / 2]);
                Check.due("13 other set", x.age(0, nodes[i], 0, line + 1), 2);
            }
        }
        Check.due("13 a younger one does not grow", x.age(1, 6, 0, 3), 1);
        Check.due("13 hit", x.age(1, 6, 0, 1), 0);
        Check.due("13 program", x.age(4, 0, 0, 0), UNKNOWN);
        Check.due("13 program", x.age(-1, 0, 0, 0), UNKNOWN);
        Check.due("13 no fetch", x.age(0, 0, 0, 0), UNKNOWN);
        Check.due("13 nothing is no fetch", x.age(2, 0, 0, 0), UNKNOWN);
        Check.due("13 node", x.age(0, 9, 0, 0), UNKNOWN);
        Check.due("13 node", x.age(0, -1, 0, 0), UNKNOWN);
        Check.due("13 node", x.age(0, LEAST, 0, 0), UNKNOWN);
        Check.due("13 line", x.age(0, 1, 0, 8), UNKNOWN);
        Check.due("13 line", x.age(0, 1, 0, -1), UNKNOWN);
        Check.due("13 unknown first", x.age(0, 1, 2, 8), UNKNOWN);
        Check.due("13 what", x.age(0, 1, 2, 0), OUTSIDE);
        Check.due("13 what", x.age(0, 1, -1, 0), OUTSIDE);
    }

    private static void agesJoin() {
        LongestRuns x = Check.with(";?;02;04;06");
        // Behind 0 2 and 0 4: 0 is the older one in both, 2 and 4 are there or not.
        int node = 9;
        int[] must = {1, 2, 2, 2};
        int[] may = {1, 0, 0, 2};
        for (int line = 0; line < 8; line += 2) {
            Check.due("13 joined must", x.age(0, node, 0, line), must[line / 2]);
            Check.due("13 joined may", x.age(0, node, 1, line), may[line / 2]);
        }
        // Behind 0: 0 is the newest; 2 and 4 grow, as they may be as new as 0 was.
        int[] mustBehind = {0, 2, 2, 2};
        int[] mayBehind = {0, 1, 1, 2};
        for (int line = 0; line < 8; line += 2) {
            Check.due("13 must behind", x.age(0, 10, 0, line), mustBehind[line / 2]);
            Check.due("13 may behind", x.age(0, 10, 1, line), mayBehind[line / 2]);
        }
    }

    private static void agesLoop() {
        LongestRuns x = Check.with(";0;d;024", "dc;?024");
        // Ahead of the LOOP's text: 0 then nothing, or .. 0 2.
        Check.due("13 loop must 0", x.age(0, 5, 0, 0), 1);
        Check.due("13 loop may 0", x.age(0, 5, 1, 0), 0);
        Check.due("13 loop must 2", x.age(0, 5, 0, 2), 2);
        Check.due("13 loop may 2", x.age(0, 5, 1, 2), 0);
        Check.due("13 within must 0", x.age(0, 6, 0, 0), 0);
        Check.due("13 within may 2", x.age(0, 6, 1, 2), 1);
        Check.due("13 behind must 0", x.age(0, 7, 0, 0), 1);
        Check.due("13 behind may 0", x.age(0, 7, 1, 0), 0);
        Check.due("13 nested must 0", x.age(1, 4, 0, 0), 2);
        Check.due("13 nested may 0", x.age(1, 4, 1, 0), 1);
        Check.due("13 nested may 2", x.age(1, 4, 1, 2), 1);
        Check.due("13 nested may 4", x.age(1, 4, 1, 4), 0);
        Check.due("13 nested may 4 behind", x.age(1, 6, 1, 4), 1);
    }

    private static void agesHeld() {
        LongestRuns x = Check.with(";0;2;40");
        x.shelf(3, 1);
        int[] nodes = {1, 3, 5, 6};
        for (int node : nodes) {
            Check.due("13 held must", x.age(0, node, 0, 0), 0);
            Check.due("13 held may", x.age(0, node, 1, 0), 0);
        }
        Check.due("13 held ones do not push", x.age(0, 3, 0, 2), 1);
        Check.due("13 room of one", x.age(0, 5, 0, 2), 0);
        Check.due("13 pushed out", x.age(0, 6, 0, 2), 1);
        x.shelf(3, 1 + 64);
        Check.due("13 no room", x.age(0, 6, 0, 4), 0);
        Check.due("13 no room", x.age(0, 6, 1, 4), 0);
        Check.due("14 no room", x.sort(0, 6), 0);
        Check.due("14 no room", x.sort(0, 5), 1);
        Check.due("13 other set", x.age(0, 6, 1, 1), 2);
    }

    private static void sorts() {
        LongestRuns x = Check.with("d;0;20", "d;?024", "d?0;24", "d;b;02b;46");
        sortsAre("14 always, once", x, 0, 2, 2, 4, 2, 5, 0);
        sortsAre("14 unsure", x, 1, 3, 3, 4, 3, 5, 3);
        sortsAre("14 unsure: three lines", x, 2, 2, 3, 4, 3, 5, 3);
        // All four are fetched in the outer LOOP, two of them in each inner one.
        sortsAre("14 an inner loop", x, 3, 4, 2, 5, 2, 8, 2, 9, 2);
        x.shelf(3, 1);
        sortsAre("14 held", x, 0, 2, 0, 4, 2, 5, 0);
        x.shelf(3, 1 + 4);
        sortsAre("14 never: no room", x, 2, 2, 0, 4, 0, 5, 1);
        x.shelf(3, 0);
        x.shelf(1, 1);
        sortsAre("14 one way", x, 0, 2, 3, 4, 1, 5, 1);
        Check.due("14 program", x.sort(4, 0), UNKNOWN);
        Check.due("14 program", x.sort(-1, 0), UNKNOWN);
        Check.due("14 node", x.sort(0, 6), UNKNOWN);
        Check.due("14 node", x.sort(0, -1), UNKNOWN);
        Check.due("14 no fetch", x.sort(0, 0), UNKNOWN);
    }

    private static void sortsAre(String what, LongestRuns x, int p, int... pairs) {
        for (int i = 0; i + 1 < pairs.length; i += 2) {
            Check.due(what + ": sort(" + p + ", " + pairs[i] + ")", x.sort(p, pairs[i]), pairs[i + 1]);
        }
    }

    private static void bounds() {
        LongestRuns x = Check.with(";0;01", "?;02;02", "c;0;02", "-");
        Check.due("15 bound", x.bound(0, 0), 21);
        Check.due("15 closer", x.bound(0, 1), 21);
        Check.due("15 the greater", x.bound(1, 0), 20);
        Check.due("15 loop", x.bound(2, 0), 3 * 21);
        Check.due("15 nothing", x.bound(3, 0), 0);
        Check.due("15 nothing", x.bound(3, 1), 0);
        x.shelf(2, 20);
        Check.due("15 miss", x.bound(2, 0), 3 * 41);
        x.shelf(3, 1);
        Check.due("15 held", x.bound(2, 0), 3 * 22);
        Check.due("15 program", x.bound(4, 0), UNKNOWN);
        Check.due("15 program", x.bound(-1, 5), UNKNOWN);
        Check.due("15 what", x.bound(0, 2), OUTSIDE);
        Check.due("15 what", x.bound(0, -1), OUTSIDE);
    }

    private static void closer() {
        LongestRuns x = Check.with("d;02", "d;b;02b;46", "?d0c;13", "d;0c;02");
        Check.due("15 once", x.bound(0, 1), 8 + 2 * 9);
        // Each inner LOOP is come to four times: two LINES each.
        Check.due("15 inner loops", x.bound(1, 1), 4 * 2 * 4 + 4 * (2 * 9) * 2);
        Check.due("15 bound", x.bound(1, 0), 4 * 2 * 40);
        // The greater of 4 and 6, and the misses of both.
        Check.due("15 choices do not matter", x.bound(2, 1), 6 + 9 + 18);
        // ahead of the inner LOOP 0 is ONCE, in it ALWAYS; 2 is ONCE by the outer one.
        Check.due("15 outermost", x.bound(3, 1), 4 * (1 + 3 * 2) + 18);
        x.shelf(1, 1);
        Check.due("15 one way", x.bound(2, 1), Math.max(4, 60) + 9);
        x.shelf(2, 2);
        Check.due("15 miss", x.bound(2, 1), Math.max(4, 12) + 1);
    }

    private static void fast() {
        LongestRuns x = Check.with("d;0;24", ";0;24", "-", "d;1;3;57");
        fastIs("16 two of three", x, 0, 5, 4 * 12);
        fastIs("16 two of three", x, 1, 5, 12);
        fastIs("16 nothing", x, 2, 0, 0);
        fastIs("16 two of four", x, 3, 2 + 8, 4 * 22);
        x.shelf(3, 64);
        fastIs("16 held ones do not matter", x, 0, 5, 4 * 12);
        Check.due("16 held ones stay", x.told(5), 64);
        x.shelf(3, 0);
        x.shelf(0, 4);
        fastIs("16 four sets", x, 0, 1 + 4 + 16, 4 * 3);
        Check.write(x, 3, "d;;;01;23;;45;67");
        fastIs("16 all lines", x, 3, 255, 4 * 8);
        x.shelf(1, 1);
        fastIs("16 one way", x, 0, 1 + 4, 4 * 12);
        Check.write(x, 0, "?0;01");
        fastIs("16 fewest", x, 0, 3, 2);
        Check.write(x, 0, "?0;11");
        // 0 costs 10, 1 1 costs 11: with 1 alone 10, with 0 alone 11, with both 2.
        fastIs("16 both", x, 0, 3, 2);
        x.shelf(0, 1);
        fastIs("16 one", x, 0, 2, 10);
        Check.write(x, 0, "?0?12");
        fastIs("16 none helps", x, 0, 0, 10);
        Check.due("16 program", x.fast(4, 0), UNKNOWN);
        Check.due("16 program", x.fast(-1, 2), UNKNOWN);
        Check.due("16 what", x.fast(0, 2), OUTSIDE);
        Check.due("16 what", x.fast(0, -1), OUTSIDE);
    }

    private static void fastIs(String what, LongestRuns x, int p, int lines, int cost) {
        Check.due(what + ": lines", x.fast(p, 0), lines);
        Check.due(what + ": cost", x.fast(p, 1), cost);
    }

    private static void crowd() {
        LongestRuns x = Check.with("d?;07b-", ";;01;23", "-", "?;45c;67");
        Check.due("17 crowd", x.crowd(0), 129);
        Check.due("17 crowd", x.crowd(1), 15);
        Check.due("17 crowd", x.crowd(2), 0);
        Check.due("17 crowd", x.crowd(3), 240);
        x.shelf(3, 1);
        Check.due("17 held ones too", x.crowd(0), 129);
        Check.due("17 program", x.crowd(4), UNKNOWN);
        Check.due("17 program", x.crowd(-1), UNKNOWN);
    }

    private static void period() {
        LongestRuns x = new LongestRuns();
        Check.due("18 first", x.period(3, 9999), 0);
        Check.due("18 was", x.period(3, 1), 9999);
        Check.due("18 none", x.period(3, 0), 1);
        Check.due("18 outside", x.period(3, -1), OUTSIDE);
        Check.due("18 outside", x.period(3, 10000), OUTSIDE);
        Check.due("18 program", x.period(4, 5), UNKNOWN);
        Check.due("18 program", x.period(-1, -5), UNKNOWN);
        Check.due("18 nothing changed", x.told(13), 0);
    }

    private static void breaks() {
        LongestRuns x = Check.with("0", ";;02;13", "1", "-");
        Check.due("19 no task", x.breaks(0, 1), STATE);
        x.period(0, 100);
        Check.due("19 the later one is no task", x.breaks(0, 1), STATE);
        x.period(1, 100);
        x.period(2, 100);
        x.period(3, 100);
        Check.due("19 one set", x.breaks(0, 1), 20);
        Check.due("19 no set", x.breaks(0, 2), 0);
        Check.due("19 both", x.breaks(1, 2), 10);
        Check.due("19 nothing", x.breaks(1, 3), 0);
        x.shelf(3, 4);
        Check.due("19 held in the later one", x.breaks(0, 1), 10);
        x.shelf(3, 1);
        Check.due("19 held in both", x.breaks(0, 1), 0);
        x.shelf(3, 0);
        x.shelf(2, 7);
        Check.due("19 miss", x.breaks(0, 1), 14);
        x.shelf(0, 1);
        Check.due("19 one set of all", x.breaks(0, 1), 28);
        x.period(0, 0);
        Check.due("19 the earlier one is no task", x.breaks(0, 1), STATE);
        Check.due("19 not later", x.breaks(1, 1), UNKNOWN);
        Check.due("19 not later", x.breaks(2, 1), UNKNOWN);
        Check.due("19 unknown first", x.breaks(1, 0), UNKNOWN);
        Check.due("19 program", x.breaks(-1, 1), UNKNOWN);
        Check.due("19 program", x.breaks(0, 4), UNKNOWN);
        Check.due("19 program", x.breaks(LEAST, GREATEST), UNKNOWN);
    }

    private static void done() {
        LongestRuns x = Check.with(";01", ";2;35", "b;0;46", "-");
        Check.due("20 no task", x.done(0), STATE);
        x.period(0, 20);
        Check.due("20 just in time", x.done(0), 20);
        x.period(0, 19);
        Check.due("20 late by itself", x.done(0), NO);
        x.period(0, 80);
        x.period(1, 80);
        Check.due("20 once broken off", x.done(1), 30 + 50);
        x.period(1, 79);
        Check.due("20 above its period", x.done(1), NO);
        x.period(0, 79);
        x.period(1, 130);
        Check.due("20 twice broken off", x.done(1), 30 + 100);
        x.period(1, 0);
        x.period(2, 9999);
        Check.due("20 only tasks break off", x.done(2), 60 + 3 * 50);
        x.period(3, 1);
        Check.due("20 nothing takes no time", x.done(3), 0);
        x.period(0, 1);
        Check.due("20 never done", x.done(2), NO);
        Check.due("20 program", x.done(4), UNKNOWN);
        Check.due("20 program", x.done(-1), UNKNOWN);
    }

    private static void late() {
        LongestRuns x = Check.with("0", "1", "-", "d;02");
        Check.due("21 no tasks", x.late(0), 0);
        x.period(0, 9);
        x.period(1, 25);
        x.period(2, 1);
        x.period(3, 100);
        // 0 is late by 1 alone; it still breaks off the others: 1 is done at 40.
        Check.due("21 late", x.late(0), 1 + 2 + 8);
        x.period(0, 50);
        x.period(1, 50);
        // 30 for each 50 by 0, which breaks off two LINES; 10 for each 50 by 1, which none.
        Check.due("21 done", x.done(3), NO);
        Check.due("21 late", x.late(0), 8);
        x.period(3, 146);
        Check.due("21 done", x.done(3), 26 + 3 * 40);
        Check.due("21 none", x.late(0), 0);
        Check.due("21 what", x.late(2), OUTSIDE);
        Check.due("21 what", x.late(-1), OUTSIDE);
        Check.due("21 what", x.late(LEAST), OUTSIDE);
    }

    private static void lateByMiss() {
        LongestRuns x = Check.with(";01", "-", "-", "d;02");
        Check.due("21 no tasks", x.late(1), 20);
        x.period(0, 9);
        Check.due("21 two misses within 9", x.late(1), 4);
        x.period(0, 4);
        Check.due("21 the least", x.late(1), 2);
        x.period(0, 3);
        Check.due("21 none", x.late(1), NONE);
        x.period(0, 39);
        Check.due("21 all but one", x.late(1), 19);
        x.period(0, 40);
        Check.due("21 the greatest", x.late(1), 20);
        Check.due("21 it stays", x.told(4), 10);
        x.shelf(2, 3);
        Check.due("21 what is set does not matter", x.late(1), 20);
        x.shelf(3, 3);
        x.period(0, 1);
        Check.due("21 never", x.late(1), NONE);
    }

    private static void images() {
        LongestRuns x = Check.with("d;02", "1");
        Check.due("22 outside", x.image(2), OUTSIDE);
        Check.due("22 outside", x.image(-1), OUTSIDE);
        Check.due("23 outside", x.restore(2), OUTSIDE);
        Check.due("23 outside", x.restore(-1), OUTSIDE);
        Check.due("23 it was not", x.restore(0), STATE);
        Check.choose(x, 3, 4);
        x.period(1, 77);
        String before = Check.stateOf(x);
        Check.due("22 kept", x.image(1), 1);
        Check.due("23 the other one was not", x.restore(0), STATE);
        change(x);
        String changed = Check.stateOf(x);
        Check.holds("22 changed", !before.equals(changed));
        Check.due("22 kept", x.image(0), 1);
        Check.due("23 as it was", x.restore(1), 1);
        Check.holds("23 all is as it was", before.equals(Check.stateOf(x)));
        Check.due("23 the other one", x.restore(0), 1);
        Check.holds("23 all is as changed", changed.equals(Check.stateOf(x)));
        Check.say(x, "?0");
        x.restore(1);
        Check.due("23 the pad is no part of it", x.told(0), 2);
        Check.due("22 kept anew", x.image(0), 1);
        x.wipe();
        change(x);
        x.restore(0);
        Check.holds("23 the new one", before.equals(Check.stateOf(x)));
    }

    private static void change(LongestRuns x) {
        Check.write(x, 0, "c?01");
        Check.write(x, 3, "7");
        x.shelf(0, 4);
        x.shelf(1, 1);
        x.shelf(2, 5);
        x.shelf(3, 3);
        x.period(0, 9);
        x.period(1, 0);
        Check.choose(x, 1, 1, 1);
    }

    private static void told() {
        LongestRuns x = Check.with("0", "b1", ";01", ";0d1");
        x.shelf(0, 4);
        x.shelf(1, 1);
        x.shelf(2, 13);
        x.shelf(3, 9);
        for (int p = 0; p < 4; p++) {
            x.period(p, 100 + p);
        }
        Check.choose(x, 5, 6, 7);
        Check.say(x, "!~");
        int[] whats = {0, 1, 2, 3, 4, 5, 10, 11, 12, 13, 20, 21, 22, 23};
        int[] wants = {2, 3, 4, 1, 13, 9, 100, 101, 102, 103, 1, 2, 3, 4};
        for (int i = 0; i < whats.length; i++) {
            Check.due("24 told " + whats[i], x.told(whats[i]), wants[i]);
        }
        int[] wrong = {-1, 6, 7, 8, 9, 14, 15, 19, 24, 30, LEAST, LEAST + 5, LEAST + 12, GREATEST};
        for (int what : wrong) {
            Check.due("24 outside " + what, x.told(what), OUTSIDE);
        }
    }
}
