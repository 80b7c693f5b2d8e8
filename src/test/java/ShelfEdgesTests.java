/** Each sentence on the shelf, texts and programs that names an edge, by a test of its own. */
public final class ShelfEdgesTests {
    private static final int NONE = -6, UNKNOWN = -1, OUTSIDE = -2, STATE = -3, FULL = -4, NO = -5;
    private static final int LEAST = Integer.MIN_VALUE, GREATEST = Integer.MAX_VALUE;
    private static final int SETS = 0, WAYS = 1, MISS = 2, HELD = 3;

    public static void main(String[] args) {
        programsAreNothing();
        noTasks();
        nothingElseAtFirst();
        settingsAtFirst();
        setsThatMayBe();
        waysThatMayBe();
        missThatMayBe();
        missIsWhatAFetchCosts();
        heldLinesThatMayBe();
        noMoreHeldLinesThanWays();
        fewerWaysThanHeldLines();
        fewerSetsThanHeldLinesNeed();
        whatShelfSets();
        shelfTellsWhichItWas();
        linesOfTheSameSet();
        asManyAsThereIsRoom();
        oneMoreThanThereIsRoom();
        theFetchedOneIsTheNewest();
        heldLinesLieThereForEver();
        heldLinesTakeWays();
        setsWithoutRoom();
        signsThatMayBeSaid();
        thirtySigns();
        fullPadIsNoProgramYet();
        wipeOfNoneAndOfAll();
        emptyPad();
        eachSignAlone();
        eachSignBehindAWholeText();
        eachSignWithin();
        withinFourOthers();
        withinOneMore();
        withinIsCountedAnewBehind();
        theFirstFault();
        moreMustCome();
        faultIsAskedOnly();
        programsZeroToThree();
        programEmptiesThePad();
        programWithAFault();
        programGoesWhole();
        theLongestProgram();
        nodesAsTheyAreWritten();
        nodesThatAreNot();
        whatOfANode();
        toldNumbers();
        Check.end();
    }

    /** "LongestRuns(): PROGRAMS are nothing", "PROGRAMS 0 to 3 (- at first)". */
    private static void programsAreNothing() {
        LongestRuns x = new LongestRuns();
        for (int p = 0; p < 4; p++) {
            Check.due("nodes", x.told(20 + p), 1);
            Check.due("sign", x.node(p, 0, 0), '-');
            Check.due("size", x.node(p, 0, 1), 1);
            Check.due("no second node", x.node(p, 1, 0), UNKNOWN);
            for (int what = 0; what < 5; what++) {
                Check.due("run of nothing", x.run(p, what), 0);
            }
            Check.due("worst of nothing", x.most(p, 0), 0);
            Check.due("best of nothing", x.most(p, 1), 0);
            Check.due("one shelf of nothing", x.most(p, 2), 1);
            Check.due("row of nothing", x.row(p, -1), 0);
            Check.due("first of no row", x.row(p, 0), NONE);
            Check.due("bound of nothing", x.bound(p, 0), 0);
            Check.due("closer of nothing", x.bound(p, 1), 0);
            Check.due("fast of nothing", x.fast(p, 0), 0);
            Check.due("worst by it", x.fast(p, 1), 0);
            Check.due("crowd of nothing", x.crowd(p), 0);
            Check.due("nothing is no fetch", x.sort(p, 0), UNKNOWN);
            Check.due("nothing is no fetch", x.age(p, 0, 0, 0), UNKNOWN);
        }
    }

    /** "no TASKS", "a PERIOD (0: it is no TASK, at first)". */
    private static void noTasks() {
        LongestRuns x = new LongestRuns();
        for (int p = 0; p < 4; p++) {
            Check.due("period", x.told(10 + p), 0);
            Check.due("done", x.done(p), STATE);
            for (int later = p + 1; later < 4; later++) {
                Check.due("breaks", x.breaks(p, later), STATE);
            }
        }
        Check.due("none is late", x.late(0), 0);
        Check.due("none would be", x.late(1), 20);
    }

    private static void nothingElseAtFirst() {
        LongestRuns x = new LongestRuns();
        Check.due("no signs", x.told(0), 0);
        Check.due("no row", x.told(1), 0);
        Check.due("no signs", x.wipe(), 0);
        Check.due("no row", x.forget(), 0);
        Check.due("no image", x.restore(0), STATE);
        Check.due("no image", x.restore(1), STATE);
    }

    /** "SETS (.. 2 at first)", "WAYS .. (.. 2 at first)", "MISS (.. 10 at first)", "none at first". */
    private static void settingsAtFirst() {
        int[] first = {2, 2, 10, 0};
        for (int what = 0; what < 4; what++) {
            Check.due("told at first", new LongestRuns().told(2 + what), first[what]);
            Check.due("was at first", new LongestRuns().shelf(what, what == HELD ? 1 : 2), first[what]);
        }
        // 0 and 2 are of one SET, and both lie there; 1 is of another one.
        LongestRuns x = Check.with(";0;2;10", ";0;2;40");
        Check.due("two sets, two ways", x.run(0, 0), 31);
        Check.due("two ways are full", x.run(1, 0), 40);
    }

    private static void takes(int what, int... all) {
        for (int v : all) {
            LongestRuns x = new LongestRuns();
            Check.holds("shelf(" + what + ", " + v + ") is taken", x.shelf(what, v) >= 0);
            Check.due("shelf(" + what + ", " + v + ") is told", x.told(2 + what), v);
        }
    }

    private static void isOutside(int what, int... all) {
        for (int v : all) {
            LongestRuns x = new LongestRuns();
            int was = x.told(2 + what);
            Check.due("shelf(" + what + ", " + v + ")", x.shelf(what, v), OUTSIDE);
            Check.due("shelf(" + what + ", " + v + ") changes nothing", x.told(2 + what), was);
        }
    }

    /** "SETS (1, 2 or 4". */
    private static void setsThatMayBe() {
        takes(SETS, 1, 2, 4);
        isOutside(SETS, 0, 3, 5, 6, 7, 8, 16, -1, -2, -4, 257, 65538, LEAST, GREATEST);
    }

    /** "WAYS each (1 or 2". */
    private static void waysThatMayBe() {
        takes(WAYS, 1, 2);
        isOutside(WAYS, 0, 3, 4, -1, -2, 257, 65537, LEAST, LEAST + 1, GREATEST);
    }

    /** "MISS (2 to 20". */
    private static void missThatMayBe() {
        takes(MISS, 2, 3, 10, 19, 20);
        isOutside(MISS, 1, 0, 21, 22, -2, -20, 256 + 2, LEAST, LEAST + 2, GREATEST);
    }

    /** "A FETCH of a LINE costs 1, if it lies there; else MISS". */
    private static void missIsWhatAFetchCosts() {
        for (int miss = 2; miss <= 20; miss++) {
            LongestRuns x = Check.with("0", ";00");
            x.shelf(MISS, miss);
            Check.due("a miss", x.run(0, 0), miss);
            Check.due("a miss and a hit", x.run(1, 0), miss + 1);
        }
    }

    /** "HELD LINES (bits". */
    private static void heldLinesThatMayBe() {
        takes(HELD, 0, 1, 128, 15, 240);
        isOutside(HELD, -1, 256, 257, 511, 65536, -256, LEAST, LEAST + 1, GREATEST);
    }

    /** "of a SET no more than WAYS", "NO: HELD LINES would be more than WAYS of a SET". */
    private static void noMoreHeldLinesThanWays() {
        for (int sets = 1; sets <= 4; sets *= 2) {
            for (int ways = 1; ways <= 2; ways++) {
                for (int held = 0; held <= 255; held++) {
                    LongestRuns x = new LongestRuns();
                    Check.shelve(x, sets, ways);
                    String call = sets + " sets, " + ways + " ways: shelf(3, " + held + ")";
                    boolean fits = mostOfASet(sets, held) <= ways;
                    Check.due(call, x.shelf(HELD, held), fits ? 0 : NO);
                    Check.due(call + " then", x.told(5), fits ? held : 0);
                }
            }
        }
    }

    private static int mostOfASet(int sets, int held) {
        int[] ofSet = new int[sets];
        int most = 0;
        for (int line = 0; line < 8; line++) {
            ofSet[line % sets] += held >> line & 1;
            most = Math.max(most, ofSet[line % sets]);
        }
        return most;
    }

    /** The same, as WAYS become fewer. */
    private static void fewerWaysThanHeldLines() {
        LongestRuns x = new LongestRuns();
        Check.due("both ways of the last set", x.shelf(HELD, 2 + 128), 0);
        Check.due("one way", x.shelf(WAYS, 1), NO);
        Check.due("two ways stay", x.told(3), 2);
        Check.due("held lines stay", x.told(5), 130);
        Check.due("one less", x.shelf(HELD, 128), 130);
        Check.due("one way", x.shelf(WAYS, 1), 2);
        Check.due("one way", x.told(3), 1);
        Check.due("two of a set", x.shelf(HELD, 128 + 32), NO);
        Check.due("one of each set", x.shelf(HELD, 128 + 64), 128);
    }

    /** The same, as SETS become fewer. */
    private static void fewerSetsThanHeldLinesNeed() {
        LongestRuns x = new LongestRuns();
        Check.shelve(x, 4, 2, 10, 255);
        Check.due("two sets of four", x.shelf(SETS, 2), NO);
        Check.due("one set of eight", x.shelf(SETS, 1), NO);
        Check.due("four sets stay", x.told(2), 4);
        Check.due("held lines stay", x.told(5), 255);
        Check.due("two of each of two sets", x.shelf(HELD, 15), 255);
        Check.due("two sets", x.shelf(SETS, 2), 4);
        Check.due("one set of four", x.shelf(SETS, 1), NO);
        Check.due("two lines", x.shelf(HELD, 129), 15);
        Check.due("one set of two", x.shelf(SETS, 1), 2);
        Check.due("three lines", x.shelf(HELD, 131), NO);
        Check.due("more sets do no harm", x.shelf(SETS, 4), 1);
    }

    /** "0 SETS, 1 WAYS, 2 MISS, 3 HELD LINES", and nothing beyond. */
    private static void whatShelfSets() {
        LongestRuns x = new LongestRuns();
        Check.shelve(x, 4, 1, 7, 9);
        int[] now = {4, 1, 7, 9};
        for (int what = 0; what < 4; what++) {
            Check.due("told", x.told(2 + what), now[what]);
        }
        int[] wrong = {-1, 4, 5, 256, LEAST, GREATEST};
        for (int what : wrong) {
            Check.due("shelf(" + what + ", 1)", x.shelf(what, 1), OUTSIDE);
            Check.due("shelf(" + what + ", 2)", x.shelf(what, 2), OUTSIDE);
        }
        for (int what = 0; what < 4; what++) {
            Check.due("told as before", x.told(2 + what), now[what]);
        }
    }

    /** "which it was": the last one taken, also when it is the same, and not one refused. */
    private static void shelfTellsWhichItWas() {
        LongestRuns x = new LongestRuns();
        Check.due("at first", x.shelf(MISS, 2), 10);
        Check.due("the least", x.shelf(MISS, 20), 2);
        Check.due("refused", x.shelf(MISS, 21), OUTSIDE);
        Check.due("the greatest", x.shelf(MISS, 20), 20);
        Check.due("the same", x.shelf(MISS, 20), 20);
        Check.due("sets", x.shelf(SETS, 2), 2);
        Check.due("ways", x.shelf(WAYS, 2), 2);
        Check.due("held", x.shelf(HELD, 3), 0);
        Check.due("held, refused", x.shelf(HELD, 21), NO);
        Check.due("held", x.shelf(HELD, 0), 3);
        Check.due("none", x.shelf(HELD, 0), 0);
    }

    /** "a LINE belongs to the SET that it leaves over by SETS". */
    private static void linesOfTheSameSet() {
        for (int sets = 1; sets <= 4; sets *= 2) {
            for (int pair = 0; pair < 64; pair++) {
                int one = pair / 8;
                int two = pair % 8;
                LongestRuns x = Check.with(";" + one + ";" + two + one);
                Check.shelve(x, sets, 1);
                boolean goes = one != two && one % sets == two % sets;
                String run = sets + " sets: " + one + " " + two + " " + one;
                Check.due(run, x.run(0, 2), one == two ? 1 : goes ? 3 : 2);
            }
        }
    }

    /** "of more than its ROOM the oldest goes": as many as the ROOM stay. */
    private static void asManyAsThereIsRoom() {
        LongestRuns x = Check.with(";;02;;020", ";;00;00");
        Check.due("two of two ways", x.run(0, 2), 2);
        Check.due("both lie there", x.run(0, 4), 5);
        x.shelf(WAYS, 1);
        Check.due("one of one way", x.run(1, 2), 1);
        Check.due("it lies there", x.run(1, 4), 1);
    }

    /** "of more than its ROOM the oldest goes": and no other one. */
    private static void oneMoreThanThereIsRoom() {
        LongestRuns x = Check.with(";0;24", ";;0;240", ";;0;242", ";0;1;35");
        Check.due("the two newest stay", x.run(0, 4), 4 + 16);
        Check.due("the oldest is gone", x.run(1, 2), 4);
        Check.due("the other one is not", x.run(2, 2), 3);
        Check.due("the other set stays", x.run(3, 4), 1 + 8 + 32);
        x.shelf(WAYS, 1);
        Check.due("the newest stays", x.run(0, 4), 16);
        Check.due("the other set stays", x.run(3, 4), 1 + 32);
    }

    /** "A LINE that is fetched is the newest then": also if it lay there. */
    private static void theFetchedOneIsTheNewest() {
        LongestRuns x = Check.with(";;02;04", ";;02;24", ";;02;;040");
        Check.due("0 again, then 2 goes", x.run(0, 4), 1 + 16);
        Check.due("2 again, then 0 goes", x.run(1, 4), 4 + 16);
        Check.due("0 stays", x.run(2, 2), 3);
    }

    /** "HELD LINES .. lie there for ever". */
    private static void heldLinesLieThereForEver() {
        LongestRuns x = Check.with("0", ";;24;60", "-", ";;13;51");
        x.shelf(HELD, 1);
        Check.due("at first", x.run(0, 0), 1);
        Check.due("behind others", x.run(1, 0), 31);
        Check.due("at the end", x.run(1, 4), 1 + 64);
        Check.due("of nothing", x.run(2, 4), 1);
        Check.due("it is not pushed out", x.run(3, 4), 1 + 2 + 32);
        x.shelf(HELD, 0);
        Check.due("no more", x.run(0, 0), 10);
    }

    /** "each taking one WAY of its SET from all others". */
    private static void heldLinesTakeWays() {
        LongestRuns x = Check.with(";;02;02", ";;13;13", ";;04;04");
        x.shelf(HELD, 64);
        Check.due("one way is left", x.run(0, 2), 4);
        Check.due("the other set has two", x.run(1, 2), 2);
        Check.due("the newest lies there", x.run(0, 4), 64 + 4);
        x.shelf(HELD, 64 + 128);
        Check.due("one way is left there too", x.run(1, 2), 4);
        x.shelf(HELD, 0);
        x.shelf(SETS, 4);
        x.shelf(HELD, 64);
        Check.due("6 takes none from 0 and 4 in four sets", x.run(2, 2), 2);
    }

    /** "ROOM of a SET: WAYS less its HELD LINES: so many others lie there at most": none. */
    private static void setsWithoutRoom() {
        LongestRuns x = Check.with(";;00;00", "d;02", ";;11;11");
        x.shelf(HELD, 16 + 64);
        Check.due("all miss", x.run(0, 2), 4);
        Check.due("none is put there", x.run(0, 4), 16 + 64);
        Check.due("worst", x.most(1, 0), 80);
        Check.due("one shelf", x.most(1, 2), 1);
        Check.due("the other set", x.run(2, 2), 1);
        x.shelf(HELD, 0);
        x.shelf(WAYS, 1);
        x.shelf(HELD, 16);
        Check.due("one way, all miss", x.run(0, 2), 4);
        Check.due("one way, none is put there", x.run(0, 4), 16);
    }

    /** "SIGNS (codes 33 to 126)", "say: .. OUTSIDE". */
    private static void signsThatMayBeSaid() {
        for (int sign = 33; sign <= 126; sign++) {
            LongestRuns x = new LongestRuns();
            Check.due("say(" + sign + ")", x.say(sign), 1);
            Check.due("it is there", x.told(0), 1);
        }
        int[] wrong = {32, 127, 31, 128, 0, -1, -33, 256 + 48, 65536 + 48, LEAST, LEAST + 48, GREATEST};
        LongestRuns x = new LongestRuns();
        for (int sign : wrong) {
            Check.due("say(" + sign + ")", x.say(sign), OUTSIDE);
            Check.due("it is not there", x.told(0), 0);
        }
    }

    /** "30 at most", "A sign more: how many. .. FULL". */
    private static void thirtySigns() {
        LongestRuns x = new LongestRuns();
        for (int i = 1; i <= 30; i++) {
            Check.due("sign " + i, x.say('b'), i);
        }
        Check.due("one more", x.say('b'), FULL);
        Check.due("and again", x.say('0'), FULL);
        Check.due("thirty", x.told(0), 30);
        Check.due("all go", x.wipe(), 30);
        Check.due("there is room again", x.say('0'), 1);
    }

    /** "the number of signs, if more must come": also if the PAD is full. */
    private static void fullPadIsNoProgramYet() {
        LongestRuns x = new LongestRuns();
        String all = ";;;;01;23;;45;67;;;01;23;;45;67";
        Check.due("a text of 31 signs", all.length(), 31);
        Check.say(x, all.substring(0, 29));
        Check.due("29 signs", x.fault(), 29);
        Check.due("the 30th", x.say(all.charAt(29)), 30);
        Check.due("30 signs", x.fault(), 30);
        Check.due("the 31st", x.say(all.charAt(30)), FULL);
        Check.due("30 signs", x.fault(), 30);
        Check.due("no program", x.program(0), NO);
        Check.due("the pad stays", x.told(0), 30);
    }

    /** "Signs go: how many there were." */
    private static void wipeOfNoneAndOfAll() {
        for (int signs = 0; signs <= 30; signs++) {
            LongestRuns x = new LongestRuns();
            for (int i = 0; i < signs; i++) {
                x.say('-');
            }
            Check.due("wipe", x.wipe(), signs);
            Check.due("none is left", x.told(0), 0);
            Check.due("wipe again", x.wipe(), 0);
            Check.due("as if none had been", x.fault(), 0);
        }
    }

    /** "the number of signs, if more must come": none yet. */
    private static void emptyPad() {
        LongestRuns x = new LongestRuns();
        Check.due("fault", x.fault(), 0);
        for (int p = 0; p < 4; p++) {
            Check.due("program", x.program(p), NO);
            Check.due("nothing stays", x.told(20 + p), 1);
        }
        Check.say(x, "7");
        x.program(2);
        Check.due("empty again", x.fault(), 0);
        Check.due("no program again", x.program(2), NO);
        Check.due("7 stays", x.node(2, 0, 0), '7');
    }

    /** Each sign of a text, and those next to them: / and 8, a and e, and all others. */
    private static void eachSignAlone() {
        for (int sign = 33; sign <= 126; sign++) {
            LongestRuns x = new LongestRuns();
            x.say(sign);
            boolean isWhole = sign >= '0' && sign <= '7' || sign == '-';
            boolean hasTexts = sign == ';' || sign == '?' || sign >= 'b' && sign <= 'd';
            Check.due("fault of " + (char) sign, x.fault(), isWhole ? NONE : hasTexts ? 1 : 0);
            Check.due("program of " + (char) sign, x.program(0), isWhole ? 1 : NO);
            Check.due("pad behind " + (char) sign, x.told(0), isWhole ? 0 : 1);
        }
    }

    /** "the first sign that can not stand there": none can behind a whole text. */
    private static void eachSignBehindAWholeText() {
        String[] whole = {"0", "-", "b7", ";01", "?-c1"};
        for (String text : whole) {
            for (int sign = 33; sign <= 126; sign++) {
                LongestRuns x = new LongestRuns();
                Check.say(x, text);
                Check.due("whole", x.fault(), NONE);
                x.say(sign);
                Check.due("fault of " + text + (char) sign, x.fault(), text.length());
                Check.due("program", x.program(0), NO);
            }
        }
    }

    private static void eachSignWithin() {
        String[] starts = {"b", ";0", "?-", "cd", "bbb", ";;01"};
        for (String start : starts) {
            for (int sign = 33; sign <= 126; sign++) {
                LongestRuns x = new LongestRuns();
                Check.say(x, start);
                x.say(sign);
                boolean isWhole = sign >= '0' && sign <= '7' || sign == '-';
                boolean hasTexts = sign == ';' || sign == '?' || sign >= 'b' && sign <= 'd';
                int want = isWhole ? NONE : start.length() + (hasTexts ? 1 : 0);
                Check.due("fault of " + start + (char) sign, x.fault(), want);
            }
        }
    }

    /** "No text lies within more than 4 others": 4 are fine. */
    private static void withinFourOthers() {
        String[] texts = {"bbbb0", "cdbc-", ";;;;01234", "????01234", ";0;1;2;34", "b;c?01d2",
            "?0?1?2?34", "b;0c;12", ";b;c01d2"};
        for (String text : texts) {
            LongestRuns x = new LongestRuns();
            Check.say(x, text);
            Check.due("fault of " + text, x.fault(), NONE);
            Check.due("program of " + text, x.program(3), text.length());
        }
    }

    /** "one that has texts of its own can not within 4 others". */
    private static void withinOneMore() {
        String[] withinThree = {"bbb", ";;;", "b;c", ";0;1;2", ";;;;01", "d;0c"};
        String[] withinFour = {"bbbb", ";;;;", "????", "b;c?", ";0;1;2;3", ";;;;0", "d;0c;1"};
        for (char sign : ";?bcd".toCharArray()) {
            for (String start : withinThree) {
                LongestRuns x = new LongestRuns();
                Check.say(x, start + sign);
                Check.due("fault of " + start + sign, x.fault(), start.length() + 1);
            }
            for (String start : withinFour) {
                LongestRuns x = new LongestRuns();
                Check.say(x, start + sign);
                Check.due("fault of " + start + sign, x.fault(), start.length());
                Check.say(x, "01");
                Check.due("fault of " + start + sign + "01", x.fault(), start.length());
                Check.due("program of " + start + sign + "01", x.program(0), NO);
            }
        }
    }

    private static void withinIsCountedAnewBehind() {
        String[] texts = {";bbb0bbb1", ";bbb0bbb;", ";bbb0bbbb", "?;;;0123?4", "?;;;0123??"};
        int[] faults = {NONE, 8, 8, 10, 10};
        for (int i = 0; i < texts.length; i++) {
            LongestRuns x = new LongestRuns();
            Check.say(x, texts[i]);
            Check.due("fault of " + texts[i], x.fault(), faults[i]);
        }
    }

    /** "the place (from 0 on) of the first sign that can not stand there". */
    private static void theFirstFault() {
        String[] texts = {"!", "!!", "0!", "00", "0!!", ";!", ";!!", ";0!", ";0!0", ";01!", "b!;", "?;01x",
            "bbbbb!", "bbb!b", "8", "/", ";8", "a", "e", "B", ";0e"};
        int[] faults = {0, 0, 1, 1, 1, 1, 1, 2, 2, 3, 1, 4, 4, 3, 0, 0, 1, 0, 0, 0, 2};
        for (int i = 0; i < texts.length; i++) {
            LongestRuns x = new LongestRuns();
            Check.say(x, texts[i]);
            Check.due("fault of " + texts[i], x.fault(), faults[i]);
        }
    }

    /** "the number of signs, if more must come": for every start of a text. */
    private static void moreMustCome() {
        String[] texts = {"b0", ";01", "?-b7", "d;0?c1-", ";;;;01;23;;45;67;;;01;23;;45d6"};
        for (String text : texts) {
            LongestRuns x = new LongestRuns();
            for (int i = 0; i < text.length(); i++) {
                Check.due("fault of the first " + i + " of " + text, x.fault(), i);
                Check.due("no program", x.program(0), NO);
                x.say(text.charAt(i));
            }
            Check.due("fault of " + text, x.fault(), NONE);
            Check.due("program", x.program(0), text.length());
        }
    }

    private static void faultIsAskedOnly() {
        LongestRuns x = new LongestRuns();
        Check.say(x, ";0x");
        Check.due("fault", x.fault(), 2);
        Check.due("and again", x.fault(), 2);
        Check.due("signs stay", x.told(0), 3);
        x.wipe();
        Check.say(x, ";01");
        Check.due("none", x.fault(), NONE);
        Check.due("none again", x.fault(), NONE);
        Check.due("it is still there", x.program(0), 3);
    }

    /** "PROGRAMS 0 to 3", "program: .. UNKNOWN". */
    private static void programsZeroToThree() {
        for (int p = 0; p < 4; p++) {
            LongestRuns x = new LongestRuns();
            Check.say(x, "b7");
            Check.due("program " + p, x.program(p), 2);
            for (int other = 0; other < 4; other++) {
                Check.due("nodes of " + other, x.told(20 + other), other == p ? 2 : 1);
            }
        }
        int[] wrong = {-1, 4, 5, 256, LEAST, GREATEST};
        LongestRuns x = new LongestRuns();
        Check.say(x, "b7");
        for (int p : wrong) {
            Check.due("program " + p, x.program(p), UNKNOWN);
            Check.due("the pad stays", x.told(0), 2);
        }
        Check.due("it can still be one", x.program(0), 2);
    }

    /** "The PAD becomes a PROGRAM (it is empty then)". */
    private static void programEmptiesThePad() {
        LongestRuns x = new LongestRuns();
        Check.say(x, ";01");
        Check.due("nodes", x.program(1), 3);
        Check.due("empty", x.told(0), 0);
        Check.due("nothing to wipe", x.wipe(), 0);
        Check.due("not twice", x.program(2), NO);
        Check.due("from the first sign on", x.say('4'), 1);
        Check.due("another one", x.program(2), 1);
        Check.due("the first one stays", x.crowd(1), 3);
        Check.due("the other one", x.crowd(2), 16);
    }

    /** "NO: there is a FAULT": what was the PROGRAM stays, and so does the PAD. */
    private static void programWithAFault() {
        String[] wrong = {";0", "00", "bbbbb0", "x", "d"};
        for (String text : wrong) {
            LongestRuns x = Check.with("?56");
            Check.say(x, text);
            Check.due("program of " + text, x.program(0), NO);
            Check.due("signs stay", x.told(0), text.length());
            Check.due("nodes stay", x.told(20), 3);
            Check.due("lines stay", x.crowd(0), 32 + 64);
        }
    }

    /** A shorter PROGRAM leaves nothing of a longer one. */
    private static void programGoesWhole() {
        LongestRuns x = Check.with(";;01;d23");
        Check.write(x, 0, "4");
        Check.due("nodes", x.told(20), 1);
        Check.due("crowd", x.crowd(0), 16);
        Check.due("size", x.node(0, 0, 1), 1);
        for (int node = 1; node < 9; node++) {
            Check.due("node " + node, x.node(0, node, 0), UNKNOWN);
            Check.due("sort " + node, x.sort(0, node), UNKNOWN);
            Check.due("age " + node, x.age(0, node, 0, 0), UNKNOWN);
        }
        Check.write(x, 0, "-");
        Check.due("nothing again", x.crowd(0), 0);
        Check.due("nothing again", x.most(0, 0), 0);
    }

    /** A PROGRAM of all 30 signs. */
    private static void theLongestProgram() {
        String text = ";;;;01;23;;45;67;;;01;23;;45d6";
        LongestRuns x = new LongestRuns();
        Check.say(x, text);
        Check.due("signs", x.told(0), 30);
        Check.due("fault", x.fault(), NONE);
        Check.due("nodes", x.program(3), 30);
        Check.due("told", x.told(23), 30);
        for (int node = 0; node < 30; node++) {
            Check.due("sign " + node, x.node(3, node, 0), text.charAt(node));
        }
        Check.due("the first", x.node(3, 0, 1), 30);
        Check.due("its second text", x.node(3, 16, 1), 14);
        Check.due("the last loop", x.node(3, 28, 1), 2);
        Check.due("the last", x.node(3, 29, 1), 1);
        Check.due("none behind", x.node(3, 30, 0), UNKNOWN);
        Check.due("none behind", x.sort(3, 30), UNKNOWN);
        Check.due("crowd", x.crowd(3), 255);
        Check.due("the pad takes 30 again", x.told(0), 0);
        Check.say(x, text);
        Check.due("30 again", x.told(0), 30);
    }

    /** "NODES are numbered as they are written", "how many NODES it has with all within". */
    private static void nodesAsTheyAreWritten() {
        String text = ";?0c-;1b?72";
        int[] sizes = {11, 4, 1, 2, 1, 6, 1, 4, 3, 1, 1};
        LongestRuns x = Check.with("-", text);
        for (int node = 0; node < sizes.length; node++) {
            Check.due("sign " + node, x.node(1, node, 0), text.charAt(node));
            Check.due("size " + node, x.node(1, node, 1), sizes[node]);
        }
    }

    /** "UNKNOWN -1 (there is no such PROGRAM, NODE". */
    private static void nodesThatAreNot() {
        LongestRuns x = Check.with("-", ";01");
        int[] wrong = {-1, 3, 4, 29, 30, 31, 256, LEAST, GREATEST};
        for (int node : wrong) {
            Check.due("node " + node, x.node(1, node, 0), UNKNOWN);
            Check.due("node " + node, x.node(1, node, 1), UNKNOWN);
        }
        int[] programs = {-1, 4, 256, LEAST, GREATEST};
        for (int p : programs) {
            Check.due("program " + p, x.node(p, 0, 0), UNKNOWN);
        }
        Check.due("the node of another program", x.node(0, 2, 0), UNKNOWN);
    }

    /** "its sign (what = 0), how many NODES .. (1) .. OUTSIDE". */
    private static void whatOfANode() {
        LongestRuns x = Check.with(";01");
        int[] wrong = {-1, 2, 3, 256, LEAST, GREATEST};
        for (int what : wrong) {
            Check.due("what " + what, x.node(0, 0, what), OUTSIDE);
            Check.due("what " + what, x.node(0, 2, what), OUTSIDE);
        }
    }

    /** "0 signs, 1 CHOICES of the row, 2 to 5 .., 10 to 13 PERIODS, 20 to 23 NODES". */
    private static void toldNumbers() {
        LongestRuns x = Check.with("0", "b1", ";01", ";0d1");
        Check.shelve(x, 4, 1, 13, 9);
        for (int p = 0; p < 4; p++) {
            x.period(p, 9999 - p);
        }
        Check.choose(x, 9, 9, 9, 9, 9);
        Check.say(x, ";;;;;;");
        int[] want = {6, 5, 4, 1, 13, 9, OUTSIDE, OUTSIDE, OUTSIDE, OUTSIDE, 9999, 9998, 9997, 9996,
            OUTSIDE, OUTSIDE, OUTSIDE, OUTSIDE, OUTSIDE, OUTSIDE, 1, 2, 3, 4, OUTSIDE, OUTSIDE};
        for (int what = 0; what < want.length; what++) {
            Check.due("told " + what, x.told(what), want[what]);
        }
        int[] wrong = {-1, -2, -10, 30, 33, 256, LEAST, LEAST + 10, LEAST + 20, GREATEST};
        for (int what : wrong) {
            Check.due("told " + what, x.told(what), OUTSIDE);
        }
    }
}
