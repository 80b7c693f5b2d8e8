/**
 * Programs of fetches, choices and bounded loops over a small shelf: what a run costs, what it
 * costs at most and at least, bounds by ages, lines held fast, and tasks of such programs.
 *
 * Every row and table is made with the object and used again: no call makes an object.
 */
public final class LongestRuns {
    public static final int NONE = -6, UNKNOWN = -1, OUTSIDE = -2, STATE = -3, FULL = -4, NO = -5;

    private static final int LINES = 8;
    private static final int ALL_LINES = 255;
    private static final int PROGRAMS = 4;
    private static final int MOST_SETS = 4;
    private static final int MOST_SIGNS = 30;
    private static final int MOST_DIGITS = 20;
    private static final int MOST_AROUND = 4;
    private static final int MOST_TIMES = 4;
    private static final int LEAST_MISS = 2;
    private static final int GREATEST_MISS = 20;
    private static final int LONGEST_PERIOD = 9999;

    // 4 SETS of 2 LINES with 2 WAYS: each SET can look in 5 ways; no other SHELF can look in more.
    private static final int MOST_SHELVES = 625;

    // What shelf() sets, in its numbers.
    private static final int SETS = 0;
    private static final int WAYS = 1;
    private static final int MISS = 2;
    private static final int HELD = 3;

    // SORTS of a FETCH.
    private static final int ALWAYS = 0;
    private static final int NEVER = 1;
    private static final int ONCE = 2;
    private static final int UNSURE = 3;

    private final Board board;
    private final Board firstImage;
    private final Board secondImage;
    private final Pad pad;
    private final Runner runner;
    private final Spread spread;
    private final Rows rows;
    private final Ages ages;
    private final Bounds bounds;
    private final Tasks tasks;

    public LongestRuns() {
        board = new Board();
        firstImage = new Board();
        secondImage = new Board();
        pad = new Pad();
        Shelves shelves = new Shelves();
        runner = new Runner(board, shelves);
        spread = new Spread(board, shelves);
        rows = new Rows(board, shelves);
        ages = new Ages(board);
        bounds = new Bounds(board, ages);
        tasks = new Tasks(board, spread);
    }

    // ---- 1 the shelf, programs

    public int shelf(int what, int v) {
        if (!Board.maySet(what, v)) {
            return OUTSIDE;
        }
        int sets = what == SETS ? v : board.setting(SETS);
        int ways = what == WAYS ? v : board.setting(WAYS);
        int held = what == HELD ? v : board.setting(HELD);
        if (!mayBeHeld(sets, ways, held)) {
            return NO;
        }
        int was = board.setting(what);
        board.set(what, v);
        return was;
    }

    public int say(int sign) {
        if (sign < 33 || sign > 126) {
            return OUTSIDE;
        }
        return pad.add(sign) ? pad.count : FULL;
    }

    public int wipe() {
        int were = pad.count;
        pad.count = 0;
        return were;
    }

    public int fault() {
        return pad.firstFault();
    }

    public int program(int p) {
        if (!isProgram(p)) {
            return UNKNOWN;
        }
        if (pad.firstFault() != NONE) {
            return NO;
        }
        Text text = board.textOf(p);
        text.take(pad.signs, pad.count);
        pad.count = 0;
        return text.count;
    }

    public int node(int p, int node, int what) {
        if (!isProgram(p) || !board.textOf(p).has(node)) {
            return UNKNOWN;
        }
        switch (what) {
            case 0:
                return board.textOf(p).signAt(node);
            case 1:
                return board.textOf(p).sizeAt(node);
            default:
                return OUTSIDE;
        }
    }

    // ---- 2 runs

    public int choose(int digit) {
        if (digit < 0 || digit > 9) {
            return OUTSIDE;
        }
        return board.addDigit(digit) ? board.chosen : FULL;
    }

    public int forget() {
        int were = board.chosen;
        board.chosen = 0;
        return were;
    }

    public int run(int p, int what) {
        if (!isProgram(p)) {
            return UNKNOWN;
        }
        if (what < 0 || what > 4) {
            return OUTSIDE;
        }
        runner.goThrough(board.textOf(p));
        switch (what) {
            case 0:
                return runner.cost;
            case 1:
                return runner.fetches;
            case 2:
                return runner.missed;
            case 3:
                return runner.taken;
            default:
                return runner.linesThere();
        }
    }

    public int most(int p, int what) {
        if (!isProgram(p)) {
            return UNKNOWN;
        }
        if (what < 0 || what > 2) {
            return OUTSIDE;
        }
        Text text = board.textOf(p);
        int cost = spread.costOf(text, board.setting(MISS), board.setting(HELD), what == 0);
        return what == 2 ? spread.ends() : cost;
    }

    public int row(int p, int i) {
        if (!isProgram(p)) {
            return UNKNOWN;
        }
        rows.find(board.textOf(p));
        if (rows.count > MOST_DIGITS) {
            return STATE;
        }
        return i == -1 ? rows.count : rows.digitAt(i);
    }

    // ---- 3 ages, bounds

    public int age(int p, int node, int what, int line) {
        if (!isFetch(p, node) || line < 0 || line >= LINES) {
            return UNKNOWN;
        }
        if (what < 0 || what > 1) {
            return OUTSIDE;
        }
        ages.trace(board.textOf(p));
        return what == 0 ? ages.mustAt(node, line) : ages.mayAt(node, line);
    }

    public int sort(int p, int node) {
        if (!isFetch(p, node)) {
            return UNKNOWN;
        }
        bounds.study(board.textOf(p));
        return bounds.sortAt(node);
    }

    public int bound(int p, int what) {
        if (!isProgram(p)) {
            return UNKNOWN;
        }
        if (what < 0 || what > 1) {
            return OUTSIDE;
        }
        bounds.study(board.textOf(p));
        return what == 0 ? bounds.plain() : bounds.closer();
    }

    // ---- 4 lines held fast, tasks

    public int fast(int p, int what) {
        if (!isProgram(p)) {
            return UNKNOWN;
        }
        if (what < 0 || what > 1) {
            return OUTSIDE;
        }
        spread.holdFast(board.textOf(p));
        return what == 0 ? spread.fastLines : spread.fastCost;
    }

    public int crowd(int p) {
        return isProgram(p) ? board.textOf(p).allLines() : UNKNOWN;
    }

    public int period(int p, int v) {
        if (!isProgram(p)) {
            return UNKNOWN;
        }
        if (v < 0 || v > LONGEST_PERIOD) {
            return OUTSIDE;
        }
        int was = board.periodOf(p);
        board.setPeriod(p, v);
        return was;
    }

    public int breaks(int p, int later) {
        if (!isProgram(p) || !isProgram(later) || later <= p) {
            return UNKNOWN;
        }
        if (!board.isTask(p) || !board.isTask(later)) {
            return STATE;
        }
        return tasks.breakCost(p, later, board.setting(MISS));
    }

    public int done(int p) {
        if (!isProgram(p)) {
            return UNKNOWN;
        }
        if (!board.isTask(p)) {
            return STATE;
        }
        tasks.weigh(board.setting(MISS));
        return tasks.timeOf(p);
    }

    public int late(int what) {
        switch (what) {
            case 0:
                tasks.weigh(board.setting(MISS));
                return tasks.lateOnes();
            case 1:
                return tasks.greatestMiss();
            default:
                return OUTSIDE;
        }
    }

    public int image(int n) {
        if (n < 0 || n > 1) {
            return OUTSIDE;
        }
        Board image = imageOf(n);
        image.copyFrom(board);
        image.kept = true;
        return 1;
    }

    public int restore(int n) {
        if (n < 0 || n > 1) {
            return OUTSIDE;
        }
        Board image = imageOf(n);
        if (!image.kept) {
            return STATE;
        }
        board.copyFrom(image);
        return 1;
    }

    public int told(int what) {
        if (what == 0) {
            return pad.count;
        }
        if (what == 1) {
            return board.chosen;
        }
        if (what >= 2 && what <= 5) {
            return board.setting(what - 2);
        }
        if (isProgram(what - 10)) {
            return board.periodOf(what - 10);
        }
        if (isProgram(what - 20)) {
            return board.textOf(what - 20).count;
        }
        return OUTSIDE;
    }

    private Board imageOf(int n) {
        return n == 0 ? firstImage : secondImage;
    }

    private boolean isFetch(int p, int node) {
        return isProgram(p) && board.textOf(p).isFetchAt(node);
    }

    private static boolean isProgram(int p) {
        return p >= 0 && p < PROGRAMS;
    }

    private static boolean isIn(int bits, int line) {
        return (bits >> line & 1) == 1;
    }

    /** The SET of a LINE: SETS are 1, 2 or 4, so that a mask leaves over what a division would. */
    private static int setOf(int line, int sets) {
        return line & (sets - 1);
    }

    /** All LINES of a SET, as bits. */
    private static int linesOfSet(int set, int sets) {
        switch (sets) {
            case 1:
                return ALL_LINES;
            case 2:
                return 85 << set;
            default:
                return 17 << set;
        }
    }

    private static boolean mayBeHeld(int sets, int ways, int held) {
        for (int set = 0; set < sets; set++) {
            if (Integer.bitCount(held & linesOfSet(set, sets)) > ways) {
                return false;
            }
        }
        return true;
    }

    /** How many texts a sign has of its own; -1: it is no sign of a text. */
    private static int partsOf(int sign) {
        switch (sign) {
            case ';':
            case '?':
                return 2;
            case 'b':
            case 'c':
            case 'd':
                return 1;
            case '-':
                return 0;
            default:
                return isLineSign(sign) ? 0 : -1;
        }
    }

    private static boolean isLineSign(int sign) {
        return sign >= '0' && sign <= '7';
    }

    /** The PAD: signs, not yet looked at. */
    private static final class Pad {
        final int[] signs = new int[MOST_SIGNS];
        int count;

        // Around how many others each text lies that must still come, the next one last.
        private final int[] waiting = new int[2 * MOST_SIGNS];

        boolean add(int sign) {
            if (count >= signs.length) {
                return false;
            }
            signs[count] = sign;
            count++;
            return true;
        }

        int firstFault() {
            int open = 1;
            waiting[0] = 0;
            for (int i = 0; i < count && i < signs.length; i++) {
                if (open < 1 || open > waiting.length) {
                    return i;
                }
                open--;
                int around = waiting[open];
                int parts = partsOf(signs[i]);
                if (parts < 0 || parts > 0 && around >= MOST_AROUND) {
                    return i;
                }
                for (int part = 0; part < parts && open < waiting.length; part++) {
                    waiting[open] = around + 1;
                    open++;
                }
            }
            return open == 0 ? NONE : count;
        }
    }

    /** A PROGRAM: its NODES as they are written; behind them there is nothing. */
    private static final class Text {
        int count = 1;
        private final int[] signs = new int[MOST_SIGNS];
        private final int[] sizes = new int[MOST_SIGNS];
        private final int[] lines = new int[MOST_SIGNS];

        Text() {
            for (int i = 0; i < MOST_SIGNS; i++) {
                signs[i] = '-';
                sizes[i] = 1;
            }
        }

        /** The signs must be those of one text without a FAULT. */
        void take(int[] from, int howMany) {
            count = Math.min(howMany, from.length);
            // Parts stand behind their NODE: so from the last one on all of them are at hand.
            for (int i = MOST_SIGNS - 1; i >= 0; i--) {
                signs[i] = i < count ? from[i] : '-';
                sizes[i] = 1;
                lines[i] = isLineSign(signs[i]) ? 1 << lineAt(i) : 0;
                int part = i + 1;
                for (int k = partsOf(signs[i]); k > 0; k--) {
                    int size = sizeAt(part);
                    sizes[i] += size;
                    lines[i] |= linesWithin(part);
                    part += size;
                }
            }
        }

        boolean has(int node) {
            return node >= 0 && node < count;
        }

        int signAt(int node) {
            return node >= 0 && node < MOST_SIGNS ? signs[node] : '-';
        }

        /** How many NODES it has with all within. */
        int sizeAt(int node) {
            return node >= 0 && node < MOST_SIGNS ? sizes[node] : 1;
        }

        /** LINES that it fetches anywhere, as bits. */
        int linesWithin(int node) {
            return node >= 0 && node < MOST_SIGNS ? lines[node] : 0;
        }

        int allLines() {
            return lines[0];
        }

        int firstPart(int node) {
            return node + 1;
        }

        int secondPart(int node) {
            return node + 1 + sizeAt(node + 1);
        }

        boolean isFetchAt(int node) {
            return isLineSign(signAt(node));
        }

        /** The LINE of a FETCH: the codes of '0' to '7' end in these bits. */
        int lineAt(int node) {
            return signAt(node) & 7;
        }

        /** How many times a LOOP may be done; 0: it is no LOOP. */
        int timesAt(int node) {
            int sign = signAt(node);
            return sign >= 'b' && sign <= 'd' ? sign - 'b' + 2 : 0;
        }

        boolean isLoopAround(int loop, int node) {
            return timesAt(loop) > 0 && loop < node && node < loop + sizeAt(loop);
        }
    }

    /** All that an IMAGE keeps: THE SHELF, PROGRAMS, PERIODS, the row of CHOICES. */
    private static final class Board {
        int chosen;
        boolean kept;
        private final int[] settings = {2, 2, 10, 0};
        private final int[] periods = new int[PROGRAMS];
        private final int[] digits = new int[MOST_DIGITS];
        private final Text first = new Text();
        private final Text second = new Text();
        private final Text third = new Text();
        private final Text fourth = new Text();

        static boolean maySet(int what, int v) {
            switch (what) {
                case SETS:
                    return v == 1 || v == 2 || v == 4;
                case WAYS:
                    return v == 1 || v == 2;
                case MISS:
                    return v >= LEAST_MISS && v <= GREATEST_MISS;
                case HELD:
                    return v >= 0 && v <= ALL_LINES;
                default:
                    return false;
            }
        }

        int setting(int what) {
            return what >= 0 && what < settings.length ? settings[what] : 0;
        }

        void set(int what, int v) {
            if (maySet(what, v) && what >= 0 && what < settings.length) {
                settings[what] = v;
            }
        }

        boolean holds(int line) {
            return isIn(settings[HELD], line);
        }

        /** The LINES of a LINE's SET that are not HELD, as bits. */
        int freeMates(int line) {
            int sets = settings[SETS];
            return linesOfSet(setOf(line, sets), sets) & ~settings[HELD];
        }

        /** ROOM of the SET of a LINE. */
        int roomFor(int line) {
            int sets = settings[SETS];
            int held = settings[HELD] & linesOfSet(setOf(line, sets), sets);
            return settings[WAYS] - Integer.bitCount(held);
        }

        Text textOf(int p) {
            switch (p) {
                case 0:
                    return first;
                case 1:
                    return second;
                case 2:
                    return third;
                default:
                    return fourth;
            }
        }

        int periodOf(int p) {
            return p >= 0 && p < periods.length ? periods[p] : 0;
        }

        void setPeriod(int p, int v) {
            if (p >= 0 && p < periods.length) {
                periods[p] = v;
            }
        }

        boolean isTask(int p) {
            return periodOf(p) > 0;
        }

        boolean addDigit(int digit) {
            if (chosen >= digits.length) {
                return false;
            }
            digits[chosen] = digit;
            chosen++;
            return true;
        }

        /** Behind the row's end it is 0. */
        int digitAt(int i) {
            return i >= 0 && i < chosen && i < digits.length ? digits[i] : 0;
        }

        void copyFrom(Board other) {
            for (int i = 0; i < settings.length; i++) {
                settings[i] = other.setting(i);
            }
            for (int p = 0; p < PROGRAMS; p++) {
                Text from = other.textOf(p);
                textOf(p).take(from.signs, from.count);
                setPeriod(p, other.periodOf(p));
            }
            chosen = other.chosen;
            for (int i = 0; i < digits.length; i++) {
                digits[i] = other.digitAt(i);
            }
        }
    }

    /**
     * All SHELVES that FETCHES of some LINES can make, by numbers; 0 is the empty one.
     *
     * A number is put together of one LOOK for each SET, as digits are. The LOOKS of a SET with n
     * such LINES: 0, empty; with ROOM 1, 1 + i: there lies the i-th; with ROOM 2, 1 + n * i + j:
     * the i-th is the newest, behind it lies the j-th, or nothing if i is j. HELD LINES lie there
     * in all of them, and need no numbers.
     */
    private static final class Shelves {
        // One SET of 8 LINES with 2 WAYS: 1 + 8 * 8.
        private static final int MOST_LOOKS = 65;
        int count;
        private int held;
        private int fetched;
        private final int[] setOfLine = new int[LINES];
        private final int[] rankOfLine = new int[LINES];
        private final int[] room = new int[MOST_SETS];
        private final int[] members = new int[MOST_SETS];
        private final int[] looks = new int[MOST_SETS];
        private final int[] stride = new int[MOST_SETS];

        // By LINE and LOOK of its SET: what a FETCH adds to twice the SHELF's number; odd: it hits.
        private final int[][] moves = new int[LINES][MOST_LOOKS];

        void lay(Board board, int heldLines, int crowd) {
            held = heldLines;
            fetched = crowd;
            for (int set = 0; set < MOST_SETS; set++) {
                room[set] = board.setting(WAYS);
                members[set] = 0;
            }
            for (int line = 0; line < LINES; line++) {
                enrol(line, setOf(line, board.setting(SETS)));
            }
            count = 1;
            for (int set = 0; set < MOST_SETS; set++) {
                stride[set] = count;
                looks[set] = looksOf(room[set], members[set]);
                count *= looks[set];
            }
            for (int line = 0; line < LINES; line++) {
                if (isIn(crowd, line)) {
                    fillMoves(line);
                }
            }
        }

        private void enrol(int line, int set) {
            if (line < 0 || line >= LINES || set < 0 || set >= MOST_SETS) {
                return;
            }
            setOfLine[line] = set;
            rankOfLine[line] = -1;
            if (isIn(held, line)) {
                room[set]--;
            } else if (isIn(fetched, line)) {
                rankOfLine[line] = members[set];
                members[set]++;
            }
        }

        private static int looksOf(int room, int members) {
            switch (room) {
                case 1:
                    return 1 + members;
                case 2:
                    return 1 + members * members;
                default:
                    return 1;
            }
        }

        private void fillMoves(int line) {
            int[] ofLine = moves[line];
            int set = setOfLine[line];
            for (int look = 0; look < looks[set] && look < ofLine.length; look++) {
                if (isIn(held, line)) {
                    ofLine[look] = 1;
                } else {
                    int shift = (nextLook(line, look) - look) * stride[set];
                    ofLine[look] = 2 * shift + (lies(line, look) ? 1 : 0);
                }
            }
        }

        private int nextLook(int line, int look) {
            int set = setOfLine[line];
            int rank = rankOfLine[line];
            if (room[set] == 0) {
                return 0;
            }
            if (room[set] == 1) {
                return 1 + rank;
            }
            int newest = newestOf(look, set);
            if (newest == rank) {
                return look;
            }
            return 1 + members[set] * rank + (newest < 0 ? rank : newest);
        }

        private boolean lies(int line, int look) {
            int set = setOfLine[line];
            int rank = rankOfLine[line];
            if (room[set] == 0 || look == 0 || rank < 0) {
                return false;
            }
            if (room[set] == 1) {
                return look == 1 + rank;
            }
            return newestOf(look, set) == rank || olderOf(look, set) == rank;
        }

        private int newestOf(int look, int set) {
            int n = members[set];
            return look > 0 && n > 0 ? (look - 1) / n : -1;
        }

        private int olderOf(int look, int set) {
            int n = members[set];
            return look > 0 && n > 0 ? (look - 1) % n : -1;
        }

        /** A FETCH: twice the number of the SHELF behind it, and 1 more if it hits. */
        int stepOf(int line, int shelf) {
            if (line < 0 || line >= LINES) {
                return 2 * shelf;
            }
            int by = stride[setOfLine[line]];
            int over = looks[setOfLine[line]];
            int look = by > 0 && over > 0 ? shelf / by % over : 0;
            return look >= 0 && look < MOST_LOOKS ? 2 * shelf + moves[line][look] : 2 * shelf;
        }

        /** The LINES of a SHELF as bits, HELD ones too: those of which a FETCH would hit. */
        int linesOn(int shelf) {
            int lines = held;
            for (int line = 0; line < LINES; line++) {
                if (isIn(fetched, line) && (stepOf(line, shelf) & 1) == 1) {
                    lines |= 1 << line;
                }
            }
            return lines;
        }
    }

    /** A RUN by the row. */
    private static final class Runner {
        int cost;
        int fetches;
        int missed;
        int taken;
        private int shelf;
        private Text text;
        private final Board board;
        private final Shelves shelves;

        Runner(Board board, Shelves shelves) {
            this.board = board;
            this.shelves = shelves;
            text = board.textOf(0);
        }

        void goThrough(Text text) {
            this.text = text;
            cost = 0;
            fetches = 0;
            missed = 0;
            taken = 0;
            shelf = 0;
            shelves.lay(board, board.setting(HELD), text.allLines());
            go(0, 0);
        }

        int linesThere() {
            return shelves.linesOn(shelf);
        }

        private void go(int node, int around) {
            if (around > MOST_AROUND) {
                return;
            }
            int first = text.firstPart(node);
            int second = text.secondPart(node);
            switch (partsOf(text.signAt(node))) {
                case 1:
                    int times = howOften(text.timesAt(node) + 1);
                    for (int i = 0; i < times; i++) {
                        go(first, around + 1);
                    }
                    break;
                case 2:
                    if (text.signAt(node) == '?') {
                        go(nextDigit() % 2 == 0 ? first : second, around + 1);
                    } else {
                        go(first, around + 1);
                        go(second, around + 1);
                    }
                    break;
                default:
                    if (text.isFetchAt(node)) {
                        fetch(text.lineAt(node));
                    }
            }
        }

        private int howOften(int ways) {
            int digit = nextDigit();
            return ways > 0 ? digit % ways : 0;
        }

        private int nextDigit() {
            int digit = board.digitAt(taken);
            taken++;
            return digit;
        }

        private void fetch(int line) {
            int step = shelves.stepOf(line, shelf);
            boolean isHit = (step & 1) == 1;
            fetches++;
            missed += isHit ? 0 : 1;
            cost += isHit ? 1 : board.setting(MISS);
            shelf = step >> 1;
        }
    }

    /** SHELVES that RUNS lead to, with what these cost: the most, or the least of them. */
    private static final class Reached {
        int count;
        private final int[] shelves = new int[MOST_SHELVES];
        private final int[] costs = new int[MOST_SHELVES];

        // By SHELF: at which place it stands above, from 1 on; 0: not there.
        private final int[] places = new int[MOST_SHELVES];

        void clear() {
            for (int i = 0; i < count && i < MOST_SHELVES; i++) {
                int shelf = shelves[i];
                if (shelf >= 0 && shelf < MOST_SHELVES) {
                    places[shelf] = 0;
                }
            }
            count = 0;
        }

        void add(int shelf, int cost, boolean isMost) {
            if (shelf < 0 || shelf >= MOST_SHELVES) {
                return;
            }
            int at = places[shelf] - 1;
            if (at >= 0 && at < MOST_SHELVES) {
                costs[at] = isMost ? Math.max(costs[at], cost) : Math.min(costs[at], cost);
            } else if (count < MOST_SHELVES) {
                shelves[count] = shelf;
                costs[count] = cost;
                count++;
                places[shelf] = count;
            }
        }

        void addAll(Reached other, boolean isMost) {
            for (int i = 0; i < other.count; i++) {
                add(other.shelfAt(i), other.costAt(i), isMost);
            }
        }

        int shelfAt(int i) {
            return i >= 0 && i < MOST_SHELVES ? shelves[i] : 0;
        }

        int costAt(int i) {
            return i >= 0 && i < MOST_SHELVES ? costs[i] : 0;
        }
    }

    /** All RUNS of a PROGRAM at once: what they cost at most and at least, and FAST by that. */
    private static final class Spread {
        int fastLines;
        int fastCost;
        private boolean isMost;
        private int miss;
        private Text text;
        private final Board board;
        private final Shelves shelves;
        private final Reached start = new Reached();
        private final Reached end = new Reached();
        private final Reached[] between = new Reached[MOST_AROUND + 1];

        Spread(Board board, Shelves shelves) {
            this.board = board;
            this.shelves = shelves;
            text = board.textOf(0);
            for (int i = 0; i < between.length; i++) {
                between[i] = new Reached();
            }
        }

        /** WORST or BEST. Behind it end has the SHELVES at the end, whichever it was. */
        int costOf(Text text, int miss, int held, boolean isMost) {
            this.text = text;
            this.miss = miss;
            this.isMost = isMost;
            shelves.lay(board, held, text.allLines());
            start.clear();
            start.add(0, 0, isMost);
            flow(0, 0, start, end);
            int cost = end.costAt(0);
            for (int i = 1; i < end.count; i++) {
                cost = isMost ? Math.max(cost, end.costAt(i)) : Math.min(cost, end.costAt(i));
            }
            return cost;
        }

        int ends() {
            return end.count;
        }

        /** A HELD LINE that is never fetched only takes ROOM: sets with such need no look. */
        void holdFast(Text text) {
            int crowd = text.allLines();
            int byMiss = board.setting(MISS);
            fastLines = 0;
            fastCost = costOf(text, byMiss, 0, true);
            for (int held = 1; held <= ALL_LINES; held++) {
                if ((held & ~crowd) == 0
                        && mayBeHeld(board.setting(SETS), board.setting(WAYS), held)) {
                    compare(held, costOf(text, byMiss, held, true));
                }
            }
        }

        /** They come in the order of their bits: so of those that are as few the first stays. */
        private void compare(int held, int cost) {
            boolean isFewer = Integer.bitCount(held) < Integer.bitCount(fastLines);
            if (cost < fastCost || cost == fastCost && isFewer) {
                fastLines = held;
                fastCost = cost;
            }
        }

        private void flow(int node, int around, Reached from, Reached to) {
            if (around > MOST_AROUND) {
                return;
            }
            int first = text.firstPart(node);
            int second = text.secondPart(node);
            Reached mid = betweenAt(around);
            to.clear();
            switch (text.signAt(node)) {
                case ';':
                    flow(first, around + 1, from, mid);
                    flow(second, around + 1, mid, to);
                    break;
                case '?':
                    flow(first, around + 1, from, to);
                    flow(second, around + 1, from, mid);
                    to.addAll(mid, isMost);
                    break;
                case '-':
                    to.addAll(from, isMost);
                    break;
                case 'b':
                case 'c':
                case 'd':
                    repeat(node, around, from, to);
                    break;
                default:
                    fetch(text.lineAt(node), from, to);
            }
        }

        /** Once more of all so far: so after i rounds it is of none to i times. */
        private void repeat(int loop, int around, Reached from, Reached to) {
            Reached mid = betweenAt(around);
            int times = text.timesAt(loop);
            to.addAll(from, isMost);
            for (int i = 0; i < times; i++) {
                flow(text.firstPart(loop), around + 1, to, mid);
                to.addAll(mid, isMost);
            }
        }

        private void fetch(int line, Reached from, Reached to) {
            for (int i = 0; i < from.count; i++) {
                int step = shelves.stepOf(line, from.shelfAt(i));
                int cost = (step & 1) == 1 ? 1 : miss;
                to.add(step >> 1, from.costAt(i) + cost, isMost);
            }
        }

        /** Each depth has its own, so that what lies within leaves it alone. */
        private Reached betweenAt(int around) {
            Reached mid = around >= 0 && around < between.length ? between[around] : null;
            return mid == null ? end : mid;
        }
    }

    /**
     * ROW. What is still to come costs at most is found from the end on, by SHELVES; with that at
     * hand each CHOICE takes the least digit by which the most can still be reached.
     */
    private static final class Rows {
        int count;
        private int shelf;
        private int miss;
        private Text text;
        private final Board board;
        private final Shelves shelves;
        private final int[] digits = new int[MOST_DIGITS];
        private final int[] end = new int[MOST_SHELVES];
        private final int[][] between = new int[MOST_AROUND + 1][MOST_SHELVES];

        // Of each depth MOST_TIMES rows, which must outlast all that is walked within.
        private final int[][] ahead = new int[MOST_TIMES * (MOST_AROUND + 1)][MOST_SHELVES];

        Rows(Board board, Shelves shelves) {
            this.board = board;
            this.shelves = shelves;
            text = board.textOf(0);
        }

        void find(Text text) {
            this.text = text;
            miss = board.setting(MISS);
            count = 0;
            shelf = 0;
            shelves.lay(board, board.setting(HELD), text.allLines());
            for (int i = 0; i < shelves.count && i < end.length; i++) {
                end[i] = 0;
            }
            walk(0, 0, end);
        }

        int digitAt(int i) {
            return i >= 0 && i < count && i < digits.length ? digits[i] : NONE;
        }

        /** More than MOST_DIGITS are only counted as one more: that is all that matters then. */
        private void put(int digit) {
            if (count < digits.length) {
                digits[count] = digit;
            }
            count++;
        }

        private void walk(int node, int around, int[] behind) {
            if (around > MOST_AROUND || count > MOST_DIGITS) {
                return;
            }
            switch (text.signAt(node)) {
                case ';':
                    walkBoth(node, around, behind);
                    break;
                case '?':
                    walkOne(node, around, behind);
                    break;
                case 'b':
                case 'c':
                case 'd':
                    walkLoop(node, around, behind);
                    break;
                case '-':
                    break;
                default:
                    shelf = shelves.stepOf(text.lineAt(node), shelf) >> 1;
            }
        }

        private void walkBoth(int node, int around, int[] behind) {
            int[] mid = aheadRow(around, 0, behind);
            look(text.secondPart(node), around + 1, behind, mid);
            walk(text.firstPart(node), around + 1, mid);
            walk(text.secondPart(node), around + 1, behind);
        }

        private void walkOne(int node, int around, int[] behind) {
            int[] byFirst = aheadRow(around, 0, behind);
            int[] bySecond = aheadRow(around, 1, behind);
            look(text.firstPart(node), around + 1, behind, byFirst);
            look(text.secondPart(node), around + 1, behind, bySecond);
            boolean isFirst = costHere(byFirst) >= costHere(bySecond);
            put(isFirst ? 0 : 1);
            walk(isFirst ? text.firstPart(node) : text.secondPart(node), around + 1, behind);
        }

        private void walkLoop(int node, int around, int[] behind) {
            int within = text.firstPart(node);
            int limit = text.timesAt(node);
            int times = 0;
            int most = costHere(behind);
            int[] before = behind;
            for (int i = 0; i < limit; i++) {
                int[] more = aheadRow(around, i, behind);
                look(within, around + 1, before, more);
                if (costHere(more) > most) {
                    most = costHere(more);
                    times = i + 1;
                }
                before = more;
            }
            put(times);
            for (int left = times - 1; left >= 0; left--) {
                walk(within, around + 1, left == 0 ? behind : aheadRow(around, left - 1, behind));
            }
        }

        /** Else: no such row, which no text without a FAULT asks for. */
        private int[] aheadRow(int around, int i, int[] orElse) {
            int at = MOST_TIMES * around + i;
            return i < MOST_TIMES && at >= 0 && at < ahead.length ? ahead[at] : orElse;
        }

        private int costHere(int[] row) {
            return shelf >= 0 && shelf < row.length ? row[shelf] : 0;
        }

        /** What a NODE and all behind it cost at most, by what all behind it costs. */
        private void look(int node, int around, int[] behind, int[] to) {
            if (around > MOST_AROUND || around >= between.length) {
                return;
            }
            int[] mid = between[around];
            int first = text.firstPart(node);
            int second = text.secondPart(node);
            switch (text.signAt(node)) {
                case ';':
                    look(second, around + 1, behind, mid);
                    look(first, around + 1, mid, to);
                    break;
                case '?':
                    look(first, around + 1, behind, to);
                    look(second, around + 1, behind, mid);
                    raise(to, mid);
                    break;
                case 'b':
                case 'c':
                case 'd':
                    lookLoop(node, around, behind, to);
                    break;
                case '-':
                    copy(behind, to);
                    break;
                default:
                    lookFetch(text.lineAt(node), behind, to);
            }
        }

        private void lookLoop(int node, int around, int[] behind, int[] to) {
            int[] mid = between[around];
            int times = text.timesAt(node);
            copy(behind, to);
            for (int i = 0; i < times; i++) {
                look(text.firstPart(node), around + 1, to, mid);
                raise(to, mid);
            }
        }

        private void lookFetch(int line, int[] behind, int[] to) {
            for (int i = 0; i < shelves.count && i < to.length; i++) {
                int step = shelves.stepOf(line, i);
                int next = step >> 1;
                if (next >= 0 && next < behind.length) {
                    to[i] = behind[next] + ((step & 1) == 1 ? 1 : miss);
                }
            }
        }

        private void raise(int[] to, int[] from) {
            for (int i = 0; i < shelves.count && i < to.length && i < from.length; i++) {
                to[i] = Math.max(to[i], from[i]);
            }
        }

        private void copy(int[] from, int[] to) {
            for (int i = 0; i < shelves.count && i < to.length && i < from.length; i++) {
                to[i] = from[i];
            }
        }
    }

    /** AGES at all FETCHES: a row of ages has MUST of all LINES, then MAY of all LINES. */
    private static final class Ages {
        // Each pass of a LOOP but the last changes one of 16 ages, by one of 2 steps, for good.
        private static final int MOST_PASSES = 64;
        private static final int WIDTH = 2 * LINES;
        private Text text;
        private final Board board;
        private final int[] now = new int[WIDTH];
        private final int[][] atNode = new int[MOST_SIGNS][WIDTH];
        private final int[][] came = new int[MOST_AROUND + 1][WIDTH];
        private final int[][] other = new int[MOST_AROUND + 1][WIDTH];

        Ages(Board board) {
            this.board = board;
            text = board.textOf(0);
        }

        void trace(Text text) {
            this.text = text;
            for (int line = 0; line < LINES; line++) {
                int oldest = board.holds(line) ? 0 : board.roomFor(line);
                now[line] = oldest;
                now[LINES + line] = oldest;
            }
            pass(0, 0);
        }

        int mustAt(int node, int line) {
            return ageAt(node, line);
        }

        int mayAt(int node, int line) {
            return ageAt(node, LINES + line);
        }

        private int ageAt(int node, int place) {
            boolean isThere = node >= 0 && node < MOST_SIGNS && place >= 0 && place < WIDTH;
            return isThere ? atNode[node][place] : 0;
        }

        private void pass(int node, int around) {
            if (around > MOST_AROUND || node < 0 || node >= MOST_SIGNS) {
                return;
            }
            int first = text.firstPart(node);
            int second = text.secondPart(node);
            switch (text.signAt(node)) {
                case ';':
                    pass(first, around + 1);
                    pass(second, around + 1);
                    break;
                case '?':
                    copy(now, came[around]);
                    pass(first, around + 1);
                    copy(now, other[around]);
                    copy(came[around], now);
                    pass(second, around + 1);
                    join(other[around]);
                    break;
                case 'b':
                case 'c':
                case 'd':
                    passLoop(first, around);
                    break;
                case '-':
                    break;
                default:
                    copy(now, atNode[node]);
                    fetch(text.lineAt(node));
            }
        }

        /** The last pass changes nothing: so what it leaves at FETCHES within is what stays. */
        private void passLoop(int within, int around) {
            boolean isChanged = true;
            for (int i = 0; i < MOST_PASSES && isChanged; i++) {
                copy(now, came[around]);
                pass(within, around + 1);
                join(came[around]);
                isChanged = !isSame(now, came[around]);
            }
        }

        private void fetch(int line) {
            int room = board.roomFor(line);
            if (board.holds(line) || room == 0) {
                return;
            }
            int must = now[line];
            int may = now[LINES + line];
            int mates = board.freeMates(line);
            for (int i = 0; i < LINES; i++) {
                if (isIn(mates, i)) {
                    now[i] += now[i] < must ? 1 : 0;
                    now[LINES + i] += now[LINES + i] <= may && now[LINES + i] < room ? 1 : 0;
                }
            }
            now[line] = 0;
            now[LINES + line] = 0;
        }

        private void join(int[] from) {
            for (int i = 0; i < LINES; i++) {
                now[i] = Math.max(now[i], from[i]);
                now[LINES + i] = Math.min(now[LINES + i], from[LINES + i]);
            }
        }

        private static void copy(int[] from, int[] to) {
            for (int i = 0; i < WIDTH; i++) {
                to[i] = from[i];
            }
        }

        private static boolean isSame(int[] one, int[] two) {
            for (int i = 0; i < WIDTH; i++) {
                if (one[i] != two[i]) {
                    return false;
                }
            }
            return true;
        }
    }

    /** SORTS of FETCHES, and BOUND and CLOSER by them. */
    private static final class Bounds {
        private Text text;
        private final Board board;
        private final Ages ages;
        private final int[] sorts = new int[MOST_SIGNS];
        private final int[] costs = new int[MOST_SIGNS];

        Bounds(Board board, Ages ages) {
            this.board = board;
            this.ages = ages;
            text = board.textOf(0);
        }

        void study(Text text) {
            this.text = text;
            ages.trace(text);
            for (int node = 0; node < text.count && node < sorts.length; node++) {
                sorts[node] = text.isFetchAt(node) ? sortOf(node) : ALWAYS;
            }
        }

        int sortAt(int node) {
            return node >= 0 && node < sorts.length ? sorts[node] : ALWAYS;
        }

        int plain() {
            return costOf(board.setting(MISS));
        }

        int closer() {
            int cost = costOf(1);
            for (int loop = 0; loop < text.count; loop++) {
                int lines = Integer.bitCount(onceLinesOf(loop));
                cost += lines * (board.setting(MISS) - 1) * timesComeTo(loop);
            }
            return cost;
        }

        private int sortOf(int node) {
            int line = text.lineAt(node);
            int room = board.roomFor(line);
            if (board.holds(line) || ages.mustAt(node, line) < room) {
                return ALWAYS;
            }
            if (ages.mayAt(node, line) == room) {
                return NEVER;
            }
            return loopThatKeeps(node) < 0 ? UNSURE : ONCE;
        }

        /** The outermost LOOP around a FETCH with ROOM for all LINES of its SET; -1: none. */
        private int loopThatKeeps(int node) {
            int mates = board.freeMates(text.lineAt(node));
            int room = board.roomFor(text.lineAt(node));
            for (int loop = 0; loop < node; loop++) {
                if (text.isLoopAround(loop, node)
                        && Integer.bitCount(text.linesWithin(loop) & mates) <= room) {
                    return loop;
                }
            }
            return -1;
        }

        /** LINES of FETCHES that are ONCE and of which this is the outermost such LOOP. */
        private int onceLinesOf(int loop) {
            int lines = 0;
            int end = loop + text.sizeAt(loop);
            for (int node = loop + 1; node < end; node++) {
                if (sortAt(node) == ONCE && loopThatKeeps(node) == loop) {
                    lines |= 1 << text.lineAt(node);
                }
            }
            return lines;
        }

        private int timesComeTo(int node) {
            int times = 1;
            for (int loop = 0; loop < node; loop++) {
                if (text.isLoopAround(loop, node)) {
                    times *= text.timesAt(loop);
                }
            }
            return times;
        }

        /** Parts stand behind their NODE: so from the last one on their costs are at hand. */
        private int costOf(int onceCost) {
            for (int node = text.count - 1; node >= 0; node--) {
                if (node < costs.length) {
                    costs[node] = costOfNode(node, onceCost);
                }
            }
            return costAt(0);
        }

        private int costOfNode(int node, int onceCost) {
            int first = costAt(text.firstPart(node));
            int second = costAt(text.secondPart(node));
            switch (text.signAt(node)) {
                case ';':
                    return first + second;
                case '?':
                    return Math.max(first, second);
                case 'b':
                case 'c':
                case 'd':
                    return text.timesAt(node) * first;
                case '-':
                    return 0;
                default:
                    return costOfFetch(sortAt(node), onceCost);
            }
        }

        private int costOfFetch(int sort, int onceCost) {
            if (sort == ALWAYS) {
                return 1;
            }
            return sort == ONCE ? onceCost : board.setting(MISS);
        }

        private int costAt(int node) {
            return text.has(node) && node < costs.length ? costs[node] : 0;
        }
    }

    /** TASKS that break off one another. */
    private static final class Tasks {
        private int miss;
        private final Board board;
        private final Spread spread;
        private final int[] worst = new int[PROGRAMS];

        Tasks(Board board, Spread spread) {
            this.board = board;
            this.spread = spread;
        }

        int breakCost(int p, int later, int byMiss) {
            int sets = board.setting(SETS);
            int own = board.textOf(p).allLines() & ~board.setting(HELD);
            int others = board.textOf(later).allLines() & ~board.setting(HELD);
            int lines = 0;
            for (int set = 0; set < sets; set++) {
                int ofSet = linesOfSet(set, sets);
                lines += (own & ofSet) == 0 ? 0 : Integer.bitCount(others & ofSet);
            }
            return lines * byMiss;
        }

        /** Must come ahead of timeOf and lateOnes. */
        void weigh(int byMiss) {
            miss = byMiss;
            for (int p = 0; p < PROGRAMS; p++) {
                worst[p] = board.isTask(p)
                        ? spread.costOf(board.textOf(p), byMiss, board.setting(HELD), true) : 0;
            }
        }

        /** DONE of a TASK, NO if it is LATE. */
        int timeOf(int p) {
            int period = board.periodOf(p);
            int time = worstOf(p);
            // Each round but the last makes the time longer by 1 or more.
            for (int i = 0; i <= LONGEST_PERIOD && time <= period; i++) {
                int next = timeWithBreaks(p, time);
                if (next == time) {
                    return time;
                }
                time = next;
            }
            return NO;
        }

        private int timeWithBreaks(int p, int time) {
            int sum = worstOf(p);
            for (int earlier = 0; earlier < p; earlier++) {
                int period = board.periodOf(earlier);
                if (period > 0) {
                    int often = (time + period - 1) / period;
                    sum += often * (worstOf(earlier) + breakCost(earlier, p, miss));
                }
            }
            return sum;
        }

        private int worstOf(int p) {
            return p >= 0 && p < worst.length ? worst[p] : 0;
        }

        /** TASKS that are LATE, as bits. */
        int lateOnes() {
            int ones = 0;
            for (int p = 0; p < PROGRAMS; p++) {
                if (board.isTask(p) && timeOf(p) == NO) {
                    ones |= 1 << p;
                }
            }
            return ones;
        }

        /** With a lesser MISS nothing takes longer: so the numbers to look at can be halved. */
        int greatestMiss() {
            int good = LEAST_MISS - 1;
            int bad = GREATEST_MISS + 1;
            for (int i = 0; i < GREATEST_MISS && bad - good > 1; i++) {
                int middle = (good + bad) / 2;
                weigh(middle);
                if (lateOnes() == 0) {
                    good = middle;
                } else {
                    bad = middle;
                }
            }
            return good < LEAST_MISS ? NONE : good;
        }
    }
}
