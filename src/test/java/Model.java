import java.util.ArrayList;
import java.util.Arrays;
import java.util.HashMap;
import java.util.List;
import java.util.Map;
import java.util.TreeSet;

/**
 * The document written a second time, as slowly and as near to its words as can be: shelves are
 * texts, rows of choices are texts, every set of held lines is tried, every MISS is tried.
 */
final class Model {
    static final int NONE = -6, UNKNOWN = -1, OUTSIDE = -2, STATE = -3, FULL = -4, NO = -5;

    /** A text within a program. */
    static final class Node {
        char sign;
        int number;
        int size = 1;
        Node up;
        final List<Node> parts = new ArrayList<>();

        boolean isFetch() {
            return sign >= '0' && sign <= '7';
        }

        boolean isLoop() {
            return sign >= 'b' && sign <= 'd';
        }

        int line() {
            return sign - '0';
        }

        int times() {
            return sign == 'b' ? 2 : sign == 'c' ? 3 : 4;
        }
    }

    /** What an image keeps. */
    static final class Kept {
        int[] shelf = {2, 2, 10, 0};
        String[] programs = {"-", "-", "-", "-"};
        int[] periods = new int[4];
        String row = "";

        Kept copy() {
            Kept other = new Kept();
            other.shelf = shelf.clone();
            other.programs = programs.clone();
            other.periods = periods.clone();
            other.row = row;
            return other;
        }
    }

    Kept now = new Kept();
    final Kept[] images = new Kept[2];
    String pad = "";

    // ---- the shelf

    int shelf(int what, int v) {
        boolean isRight = what == 0 ? v == 1 || v == 2 || v == 4
                : what == 1 ? v == 1 || v == 2
                : what == 2 ? 2 <= v && v <= 20
                : what == 3 && 0 <= v && v <= 255;
        if (!isRight) {
            return OUTSIDE;
        }
        int[] next = now.shelf.clone();
        next[what] = v;
        if (!fits(next)) {
            return NO;
        }
        int was = now.shelf[what];
        now.shelf = next;
        return was;
    }

    private static boolean fits(int[] shelf) {
        for (int line = 0; line < 8; line++) {
            if (room(shelf, line) < 0) {
                return false;
            }
        }
        return true;
    }

    static int room(int[] shelf, int line) {
        int room = shelf[1];
        for (int other = 0; other < 8; other++) {
            if (other % shelf[0] == line % shelf[0] && held(shelf, other)) {
                room--;
            }
        }
        return room;
    }

    static boolean held(int[] shelf, int line) {
        return (shelf[3] & 1 << line) != 0;
    }

    static boolean lies(int[] shelf, String lines, int line) {
        return held(shelf, line) || lines.indexOf('0' + line) >= 0;
    }

    /** A shelf as a text: the lines of set 0, then those of set 1, .., the newest of each first. */
    static String fetch(int[] shelf, String lines, int line) {
        if (held(shelf, line)) {
            return lines;
        }
        StringBuilder next = new StringBuilder();
        for (int set = 0; set < shelf[0]; set++) {
            StringBuilder ofSet = new StringBuilder();
            if (line % shelf[0] == set) {
                ofSet.append(line);
            }
            for (char other : lines.toCharArray()) {
                if ((other - '0') % shelf[0] == set && other - '0' != line) {
                    ofSet.append(other);
                }
            }
            if (line % shelf[0] == set) {
                ofSet.setLength(Math.min(ofSet.length(), room(shelf, line)));
            }
            next.append(ofSet);
        }
        return next.toString();
    }

    // ---- texts

    int say(int sign) {
        if (sign < 33 || sign > 126) {
            return OUTSIDE;
        }
        if (pad.length() == 30) {
            return FULL;
        }
        pad += (char) sign;
        return pad.length();
    }

    int wipe() {
        int were = pad.length();
        pad = "";
        return were;
    }

    /** Where a text from a place on ends; -1 - place: the fault. */
    private static int endOf(String text, int place, int around) {
        if (place == text.length()) {
            return -1 - place;
        }
        char sign = text.charAt(place);
        if ("01234567-".indexOf(sign) >= 0) {
            return place + 1;
        }
        int parts = ";?".indexOf(sign) >= 0 ? 2 : "bcd".indexOf(sign) >= 0 ? 1 : 0;
        if (parts == 0 || around == 4) {
            return -1 - place;
        }
        int end = place + 1;
        for (int i = 0; i < parts && end >= 0; i++) {
            end = endOf(text, end, around + 1);
        }
        return end;
    }

    int fault() {
        int end = endOf(pad, 0, 0);
        return end < 0 ? -1 - end : end < pad.length() ? end : NONE;
    }

    int program(int p) {
        if (p < 0 || p > 3) {
            return UNKNOWN;
        }
        if (fault() != NONE) {
            return NO;
        }
        now.programs[p] = pad;
        pad = "";
        return now.programs[p].length();
    }

    static Node parse(String text) {
        return parse(text, new int[1], null);
    }

    private static Node parse(String text, int[] place, Node up) {
        Node node = new Node();
        node.up = up;
        node.number = place[0];
        node.sign = text.charAt(place[0]);
        place[0]++;
        int parts = ";?".indexOf(node.sign) >= 0 ? 2 : node.isLoop() ? 1 : 0;
        for (int i = 0; i < parts; i++) {
            Node part = parse(text, place, node);
            node.parts.add(part);
            node.size += part.size;
        }
        return node;
    }

    static List<Node> nodes(Node root) {
        List<Node> all = new ArrayList<>();
        all.add(root);
        for (Node part : root.parts) {
            all.addAll(nodes(part));
        }
        return all;
    }

    static TreeSet<Integer> linesOf(Node node) {
        TreeSet<Integer> lines = new TreeSet<>();
        for (Node each : nodes(node)) {
            if (each.isFetch()) {
                lines.add(each.line());
            }
        }
        return lines;
    }

    private Node textOf(int p) {
        return parse(now.programs[p]);
    }

    private boolean has(int p, int node) {
        return p >= 0 && p < 4 && node >= 0 && node < now.programs[p].length();
    }

    int node(int p, int node, int what) {
        if (!has(p, node)) {
            return UNKNOWN;
        }
        if (what != 0 && what != 1) {
            return OUTSIDE;
        }
        Node it = nodes(textOf(p)).get(node);
        return what == 0 ? it.sign : it.size;
    }

    // ---- runs

    int choose(int digit) {
        if (digit < 0 || digit > 9) {
            return OUTSIDE;
        }
        if (now.row.length() == 20) {
            return FULL;
        }
        now.row += digit;
        return now.row.length();
    }

    int forget() {
        int were = now.row.length();
        now.row = "";
        return were;
    }

    /** A run by told choices; it also tells how many ways the first choice behind the row had. */
    static final class Run {
        final int[] shelf;
        final String row;
        String lines = "";
        int cost;
        int fetches;
        int missed;
        int taken;
        int waysBehind;
        final Map<Integer, int[]> oldest = new HashMap<>();
        final Map<Integer, int[]> newest = new HashMap<>();

        Run(int[] shelf, Node root, String row) {
            this.shelf = shelf;
            this.row = row;
            go(root);
        }

        private void go(Node node) {
            if (node.isFetch()) {
                see(node.number);
                boolean isThere = lies(shelf, lines, node.line());
                cost += isThere ? 1 : shelf[2];
                fetches++;
                missed += isThere ? 0 : 1;
                lines = fetch(shelf, lines, node.line());
            } else if (node.isLoop()) {
                int times = digit(node.times() + 1);
                for (int i = 0; i < times; i++) {
                    go(node.parts.get(0));
                }
            } else if (node.sign == '?') {
                go(node.parts.get(digit(2)));
            } else {
                node.parts.forEach(this::go);
            }
        }

        private int digit(int ways) {
            int digit = taken < row.length() ? row.charAt(taken) - '0' : 0;
            if (taken == row.length()) {
                waysBehind = ways;
            }
            taken++;
            return digit % ways;
        }

        private void see(int node) {
            int[] high = oldest.computeIfAbsent(node, n -> new int[8]);
            int[] low = newest.computeIfAbsent(node, n -> new int[] {9, 9, 9, 9, 9, 9, 9, 9});
            for (int line = 0; line < 8; line++) {
                int age = ageOf(line);
                high[line] = Math.max(high[line], age);
                low[line] = Math.min(low[line], age);
            }
        }

        private int ageOf(int line) {
            if (held(shelf, line)) {
                return 0;
            }
            int age = 0;
            for (char other : lines.toCharArray()) {
                if (other - '0' == line) {
                    return age;
                }
                age += (other - '0') % shelf[0] == line % shelf[0] ? 1 : 0;
            }
            return room(shelf, line);
        }

        int bits() {
            int bits = shelf[3];
            for (char line : lines.toCharArray()) {
                bits |= 1 << line - '0';
            }
            return bits;
        }
    }

    int run(int p, int what) {
        if (p < 0 || p > 3) {
            return UNKNOWN;
        }
        if (what < 0 || what > 4) {
            return OUTSIDE;
        }
        Run run = new Run(now.shelf, textOf(p), now.row);
        return new int[] {run.cost, run.fetches, run.missed, run.taken, run.bits()}[what];
    }

    /** By shelves: what all runs cost that lead there: the most (sign 1), the least (-1). */
    static Map<String, Integer> flow(int[] shelf, Node node, Map<String, Integer> from, int sign) {
        Map<String, Integer> to = new HashMap<>();
        if (node.isFetch()) {
            from.forEach((lines, cost) -> {
                int more = lies(shelf, lines, node.line()) ? 1 : shelf[2];
                keep(to, fetch(shelf, lines, node.line()), cost + more, sign);
            });
            return to;
        }
        if (node.sign == ';') {
            return flow(shelf, node.parts.get(1), flow(shelf, node.parts.get(0), from, sign), sign);
        }
        if (node.sign == '?') {
            for (Node part : node.parts) {
                flow(shelf, part, from, sign).forEach((lines, cost) -> keep(to, lines, cost, sign));
            }
            return to;
        }
        to.putAll(from);
        Map<String, Integer> last = from;
        for (int i = 0; node.isLoop() && i < node.times(); i++) {
            last = flow(shelf, node.parts.get(0), last, sign);
            last.forEach((lines, cost) -> keep(to, lines, cost, sign));
        }
        return to;
    }

    private static void keep(Map<String, Integer> to, String lines, int cost, int sign) {
        to.merge(lines, cost, (a, b) -> a * sign > b * sign ? a : b);
    }

    static Map<String, Integer> ends(int[] shelf, Node root, int sign) {
        return flow(shelf, root, Map.of("", 0), sign);
    }

    static int worst(int[] shelf, Node root) {
        return ends(shelf, root, 1).values().stream().max(Integer::compare).get();
    }

    int most(int p, int what) {
        if (p < 0 || p > 3) {
            return UNKNOWN;
        }
        if (what < 0 || what > 2) {
            return OUTSIDE;
        }
        if (what == 1) {
            return ends(now.shelf, textOf(p), -1).values().stream().min(Integer::compare).get();
        }
        return what == 0 ? worst(now.shelf, textOf(p)) : ends(now.shelf, textOf(p), 1).size();
    }

    /** What a run costs, and its row. */
    static final class Way {
        final int cost;
        final String row;

        Way(int cost, String row) {
            this.cost = cost;
            this.row = row;
        }

        Way and(int more, String digits) {
            return new Way(cost + more, row + digits);
        }

        Way orBetter(Way other) {
            if (cost != other.cost) {
                return cost > other.cost ? this : other;
            }
            return row.compareTo(other.row) <= 0 ? this : other;
        }
    }

    /** By shelves: the dearest way there, of several the first by digits. */
    private static Map<String, Way> ways(int[] shelf, Node node, Map<String, Way> from) {
        Map<String, Way> to = new HashMap<>();
        if (node.isFetch()) {
            from.forEach((lines, way) -> {
                int more = lies(shelf, lines, node.line()) ? 1 : shelf[2];
                to.merge(fetch(shelf, lines, node.line()), way.and(more, ""), Way::orBetter);
            });
            return to;
        }
        if (node.sign == ';') {
            return ways(shelf, node.parts.get(1), ways(shelf, node.parts.get(0), from));
        }
        if (node.sign == '-') {
            return from;
        }
        int choices = node.isLoop() ? node.times() + 1 : 2;
        for (int digit = 0; digit < choices; digit++) {
            Map<String, Way> next = new HashMap<>();
            for (Map.Entry<String, Way> entry : from.entrySet()) {
                next.put(entry.getKey(), entry.getValue().and(0, "" + digit));
            }
            if (node.sign == '?') {
                next = ways(shelf, node.parts.get(digit), next);
            }
            for (int i = 0; node.isLoop() && i < digit; i++) {
                next = ways(shelf, node.parts.get(0), next);
            }
            next.forEach((lines, way) -> to.merge(lines, way, Way::orBetter));
        }
        return to;
    }

    static Way dearest(int[] shelf, Node root) {
        return ways(shelf, root, Map.of("", new Way(0, ""))).values().stream()
                .reduce(Way::orBetter).get();
    }

    int row(int p, int i) {
        if (p < 0 || p > 3) {
            return UNKNOWN;
        }
        String row = dearest(now.shelf, textOf(p)).row;
        if (row.length() > 20) {
            return STATE;
        }
        if (i == -1) {
            return row.length();
        }
        return i >= 0 && i < row.length() ? row.charAt(i) - '0' : NONE;
    }

    // ---- ages, bounds

    /** Ages: [0] MUST, [1] MAY of each line. */
    private static int[][] pass(int[] shelf, Node node, int[][] ages, Map<Integer, int[][]> seen) {
        if (node.isFetch()) {
            seen.put(node.number, ages);
            return fetchAges(shelf, node.line(), ages);
        }
        if (node.sign == '?') {
            return join(pass(shelf, node.parts.get(0), ages, seen),
                    pass(shelf, node.parts.get(1), ages, seen));
        }
        if (node.isLoop()) {
            int[][] ahead = ages;
            while (true) {
                int[][] next = join(ages, pass(shelf, node.parts.get(0), ahead, seen));
                if (Arrays.deepEquals(ahead, next)) {
                    return ahead;
                }
                ahead = next;
            }
        }
        int[][] behind = ages;
        for (Node part : node.parts) {
            behind = pass(shelf, part, behind, seen);
        }
        return behind;
    }

    private static int[][] fetchAges(int[] shelf, int line, int[][] ages) {
        int room = room(shelf, line);
        int[][] next = {ages[0].clone(), ages[1].clone()};
        if (room == 0 || held(shelf, line)) {
            return next;
        }
        for (int other = 0; other < 8; other++) {
            boolean isMate = other != line && other % shelf[0] == line % shelf[0];
            if (isMate && !held(shelf, other)) {
                if (ages[0][other] < ages[0][line]) {
                    next[0][other] = ages[0][other] + 1;
                }
                if (ages[1][other] <= ages[1][line]) {
                    next[1][other] = Math.min(room, ages[1][other] + 1);
                }
            }
        }
        next[0][line] = 0;
        next[1][line] = 0;
        return next;
    }

    private static int[][] join(int[][] one, int[][] two) {
        int[][] both = new int[2][8];
        for (int line = 0; line < 8; line++) {
            both[0][line] = Math.max(one[0][line], two[0][line]);
            both[1][line] = Math.min(one[1][line], two[1][line]);
        }
        return both;
    }

    static Map<Integer, int[][]> ages(int[] shelf, Node root) {
        int[][] first = new int[2][8];
        for (int line = 0; line < 8; line++) {
            first[0][line] = held(shelf, line) ? 0 : room(shelf, line);
            first[1][line] = first[0][line];
        }
        Map<Integer, int[][]> seen = new HashMap<>();
        pass(shelf, root, first, seen);
        return seen;
    }

    private boolean isFetch(int p, int node) {
        return has(p, node) && nodes(textOf(p)).get(node).isFetch();
    }

    int age(int p, int node, int what, int line) {
        if (!isFetch(p, node) || line < 0 || line > 7) {
            return UNKNOWN;
        }
        if (what != 0 && what != 1) {
            return OUTSIDE;
        }
        return ages(now.shelf, textOf(p)).get(node)[what][line];
    }

    /** The outermost loop around a fetch with room for all that it fetches of that set, or null. */
    private static Node keeper(int[] shelf, Node fetch) {
        Node found = null;
        for (Node loop = fetch.up; loop != null; loop = loop.up) {
            if (loop.isLoop()) {
                long unlike = linesOf(loop).stream()
                        .filter(line -> line % shelf[0] == fetch.line() % shelf[0])
                        .filter(line -> !held(shelf, line)).count();
                found = unlike <= room(shelf, fetch.line()) ? loop : found;
            }
        }
        return found;
    }

    private static int sortOf(int[] shelf, Node fetch, int[][] ages) {
        int room = room(shelf, fetch.line());
        if (held(shelf, fetch.line()) || ages[0][fetch.line()] < room) {
            return 0;
        }
        if (ages[1][fetch.line()] == room) {
            return 1;
        }
        return keeper(shelf, fetch) != null ? 2 : 3;
    }

    int sort(int p, int node) {
        if (!isFetch(p, node)) {
            return UNKNOWN;
        }
        Node root = textOf(p);
        return sortOf(now.shelf, nodes(root).get(node), ages(now.shelf, root).get(node));
    }

    private static int bound(int[] shelf, Node node, Map<Integer, int[][]> ages, int once) {
        if (node.isFetch()) {
            int sort = sortOf(shelf, node, ages.get(node.number));
            return sort == 0 ? 1 : sort == 2 ? once : shelf[2];
        }
        int sum = 0;
        int greatest = 0;
        for (Node part : node.parts) {
            int cost = bound(shelf, part, ages, once);
            sum += cost;
            greatest = Math.max(greatest, cost);
        }
        return node.sign == '?' ? greatest : node.isLoop() ? sum * node.times() : sum;
    }

    static int bound(int[] shelf, Node root, boolean isCloser) {
        Map<Integer, int[][]> ages = ages(shelf, root);
        if (!isCloser) {
            return bound(shelf, root, ages, shelf[2]);
        }
        int cost = bound(shelf, root, ages, 1);
        Map<Node, TreeSet<Integer>> firsts = new HashMap<>();
        for (Node node : nodes(root)) {
            if (node.isFetch() && sortOf(shelf, node, ages.get(node.number)) == 2) {
                firsts.computeIfAbsent(keeper(shelf, node), n -> new TreeSet<>()).add(node.line());
            }
        }
        for (Map.Entry<Node, TreeSet<Integer>> entry : firsts.entrySet()) {
            int more = entry.getValue().size() * (shelf[2] - 1);
            for (Node loop = entry.getKey().up; loop != null; loop = loop.up) {
                more *= loop.isLoop() ? loop.times() : 1;
            }
            cost += more;
        }
        return cost;
    }

    int bound(int p, int what) {
        if (p < 0 || p > 3) {
            return UNKNOWN;
        }
        return what != 0 && what != 1 ? OUTSIDE : bound(now.shelf, textOf(p), what == 1);
    }

    // ---- lines held fast, tasks

    int fast(int p, int what) {
        if (p < 0 || p > 3) {
            return UNKNOWN;
        }
        if (what != 0 && what != 1) {
            return OUTSIDE;
        }
        int[] best = null;
        for (int lines = 0; lines < 256; lines++) {
            int[] shelf = now.shelf.clone();
            shelf[3] = lines;
            if (fits(shelf)) {
                int[] it = {worst(shelf, textOf(p)), Integer.bitCount(lines), lines};
                best = best == null || Arrays.compare(it, best) < 0 ? it : best;
            }
        }
        return what == 0 ? best[2] : best[0];
    }

    int crowd(int p) {
        if (p < 0 || p > 3) {
            return UNKNOWN;
        }
        return linesOf(textOf(p)).stream().mapToInt(line -> 1 << line).sum();
    }

    int period(int p, int v) {
        if (p < 0 || p > 3) {
            return UNKNOWN;
        }
        if (v < 0 || v > 9999) {
            return OUTSIDE;
        }
        int was = now.periods[p];
        now.periods[p] = v;
        return was;
    }

    private int breakCost(int[] shelf, int p, int later) {
        int cost = 0;
        for (int line : linesOf(textOf(later))) {
            boolean isHit = linesOf(textOf(p)).stream()
                    .anyMatch(own -> !held(shelf, own) && own % shelf[0] == line % shelf[0]);
            cost += isHit && !held(shelf, line) ? shelf[2] : 0;
        }
        return cost;
    }

    int breaks(int p, int later) {
        if (p < 0 || p > 3 || later < 0 || later > 3 || later <= p) {
            return UNKNOWN;
        }
        if (now.periods[p] == 0 || now.periods[later] == 0) {
            return STATE;
        }
        return breakCost(now.shelf, p, later);
    }

    /** The least time that is as told, looked for one by one; NO: there is none in the period. */
    private int doneBy(int[] shelf, int p) {
        int own = worst(shelf, textOf(p));
        int[] each = new int[p];
        for (int q = 0; q < p; q++) {
            each[q] = now.periods[q] == 0 ? 0 : worst(shelf, textOf(q)) + breakCost(shelf, q, p);
        }
        for (int t = own; t <= now.periods[p]; t++) {
            long sum = own;
            for (int q = 0; q < p; q++) {
                sum += now.periods[q] == 0 ? 0 : (long) Math.ceil(t / (double) now.periods[q]) * each[q];
            }
            if (sum == t) {
                return t;
            }
        }
        return NO;
    }

    int done(int p) {
        if (p < 0 || p > 3) {
            return UNKNOWN;
        }
        return now.periods[p] == 0 ? STATE : doneBy(now.shelf, p);
    }

    private int lateBy(int miss) {
        int[] shelf = now.shelf.clone();
        shelf[2] = miss;
        int late = 0;
        for (int p = 0; p < 4; p++) {
            late += now.periods[p] != 0 && doneBy(shelf, p) == NO ? 1 << p : 0;
        }
        return late;
    }

    int late(int what) {
        if (what != 0 && what != 1) {
            return OUTSIDE;
        }
        if (what == 0) {
            return lateBy(now.shelf[2]);
        }
        for (int miss = 20; miss >= 2; miss--) {
            if (lateBy(miss) == 0) {
                return miss;
            }
        }
        return NONE;
    }

    int image(int n) {
        if (n != 0 && n != 1) {
            return OUTSIDE;
        }
        images[n] = now.copy();
        return 1;
    }

    int restore(int n) {
        if (n != 0 && n != 1) {
            return OUTSIDE;
        }
        if (images[n] == null) {
            return STATE;
        }
        now = images[n].copy();
        return 1;
    }

    int told(int what) {
        if (what == 0) {
            return pad.length();
        }
        if (what == 1) {
            return now.row.length();
        }
        if (what >= 2 && what < 6) {
            return now.shelf[what - 2];
        }
        if (what >= 10 && what < 14) {
            return now.periods[what - 10];
        }
        return what >= 20 && what < 24 ? now.programs[what - 20].length() : OUTSIDE;
    }
}
