import java.util.ArrayList;
import java.util.Arrays;
import java.util.List;
import java.util.TreeSet;

/**
 * Compares the class with a plain model on many graphs. The model goes through ways one by one, as the
 * document's terms do, and not through sets of nodes reached, so that both are not wrong in the same manner.
 */
public final class ModelTest {
    private static final int NODES = 16;
    private static final int VARIABLES = 4;
    private static final int GRAPHS = 3000;

    private static int wrong = 0;
    private static long state = 20261115L;

    private final GraphShaper shaper = new GraphShaper();
    private final int graph;
    private final int[][] acts = new int[NODES][3];
    private final int[][] ends = new int[NODES][4];

    private int[] number;
    private List<List<Integer>> from0;
    private final List<List<List<Integer>>> waysFrom = new ArrayList<>();
    private boolean[][] before;
    private boolean[][] behind;
    private final List<TreeSet<Integer>> loops = new ArrayList<>();
    private final List<Integer> words = new ArrayList<>();

    private ModelTest(int graph) {
        this.graph = graph;
    }

    public static void main(String[] args) {
        int straight = 0;
        for (int graph = 0; graph < GRAPHS; graph++) {
            ModelTest model = new ModelTest(graph);
            model.draw();
            model.prepare();
            model.compare();
            straight += model.isStraight() ? 1 : 0;
        }
        if (straight < GRAPHS / 5 || straight > GRAPHS * 4 / 5) {
            wrong++;
            System.out.println("the graphs are too much alike: " + straight + " of " + GRAPHS + " are straight");
        }
        System.out.println(wrong == 0 ? "all answers are as due" : wrong + " answers are not as due");
        if (wrong != 0) {
            System.exit(1);
        }
    }

    private void due(String call, long got, long want) {
        if (got != want) {
            wrong++;
            if (wrong < 100) {
                System.out.println("graph " + graph + ", acts " + Arrays.deepToString(acts) + ", ends "
                    + Arrays.deepToString(ends) + ": " + call + " answered " + got + ", due is " + want);
            }
        }
    }

    /** A row of numbers that is always the same. */
    private static int pick(int bound) {
        state = state * 6364136223846793005L + 1442695040888963407L;
        return (int) ((state >>> 33) % bound);
    }

    // Drawing.

    private void draw() {
        int used = graph % 2 == 0 ? 1 + pick(NODES) : 4 + pick(6);
        int backward = pick(8);
        int[] name = names();
        for (int place = 0; place < used; place++) {
            int n = name[place];
            int kind = pick(6);
            acts[n] = new int[] {kind, pick(VARIABLES), pick(kind == 3 ? VARIABLES : 16)};
            int end = pick(12);
            int x = name[aim(place, used, backward)];
            int y = pick(8) == 0 ? x : name[aim(place, used, backward)];
            ends[n] = new int[] {end == 0 ? 0 : end < 4 ? 1 : 2, pick(VARIABLES), x, y};
            due("act", shaper.act(n, acts[n][0], acts[n][1], acts[n][2]) ? 1 : 0, 1);
            due("end", shaper.end(n, ends[n][0], ends[n][1], ends[n][2], ends[n][3]) ? 1 : 0, 1);
            askInBetween();
        }
    }

    /** An answer in between must not stay when the graph changes. */
    private void askInBetween() {
        if (pick(4) == 0) {
            shaper.words();
            shaper.run(1L, 10);
        }
    }

    /** The nodes in any order behind node 0, so that no answer can come from the order of their names. */
    private static int[] names() {
        int[] name = new int[NODES];
        for (int n = 1; n < NODES; n++) {
            int other = 1 + pick(n);
            name[n] = name[other];
            name[other] = n;
        }
        return name;
    }

    /** Mostly onward and near, so that many graphs are straight and deep. */
    private static int aim(int place, int used, int backward) {
        if (pick(8) < backward || place == used - 1) {
            return pick(used);
        }
        return Math.min(used - 1, place + 1 + pick(3));
    }

    // The terms.

    private List<Integer> successors(int n) {
        List<Integer> found = new ArrayList<>();
        if (ends[n][0] >= 1) {
            found.add(ends[n][2]);
        }
        if (ends[n][0] == 2 && ends[n][2] != ends[n][3]) {
            found.add(ends[n][3]);
        }
        return found;
    }

    private boolean seen(int n) {
        return number[n] >= 0;
    }

    private List<Integer> predecessors(int n) {
        List<Integer> found = new ArrayList<>();
        for (int p = 0; p < NODES; p++) {
            if (seen(p) && successors(p).contains(n)) {
                found.add(p);
            }
        }
        return found;
    }

    private void prepare() {
        number = new int[NODES];
        Arrays.fill(number, -1);
        List<Integer> left = new ArrayList<>();
        goThrough(0, new TreeSet<>(), left);
        for (int k = 0; k < left.size(); k++) {
            number[left.get(k)] = left.size() - 1 - k;
        }
        for (int n = 0; n < NODES; n++) {
            List<List<Integer>> ways = new ArrayList<>();
            if (seen(n)) {
                collect(n, new ArrayList<>(), ways);
            }
            waysFrom.add(ways);
        }
        from0 = waysFrom.get(0);
        before = new boolean[NODES][NODES];
        behind = new boolean[NODES][NODES];
        for (int d = 0; d < NODES; d++) {
            for (int n = 0; n < NODES; n++) {
                before[d][n] = seen(n) && isBefore(d, n);
                behind[d][n] = seen(n) && isBehind(d, n);
            }
        }
        for (int h = 0; h < NODES; h++) {
            loops.add(loopOf(h));
        }
    }

    private void goThrough(int n, TreeSet<Integer> come, List<Integer> left) {
        come.add(n);
        for (int s : successors(n)) {
            if (!come.contains(s)) {
                goThrough(s, come, left);
            }
        }
        left.add(n);
    }

    /** All ways from a node that have no node twice: a way that has one twice has no fewer nodes than a shorter one. */
    private void collect(int n, List<Integer> way, List<List<Integer>> ways) {
        way.add(n);
        ways.add(new ArrayList<>(way));
        for (int s : successors(n)) {
            if (!way.contains(s)) {
                collect(s, way, ways);
            }
        }
        way.remove(way.size() - 1);
    }

    private static int last(List<Integer> way) {
        return way.get(way.size() - 1);
    }

    private boolean isBefore(int d, int n) {
        for (List<Integer> way : from0) {
            if (last(way) == n && !way.contains(d)) {
                return false;
            }
        }
        return true;
    }

    private boolean isBehind(int d, int n) {
        boolean any = false;
        for (List<Integer> way : waysFrom.get(n)) {
            if (ends[last(way)][0] == 0) {
                any = true;
                if (!way.contains(d)) {
                    return false;
                }
            }
        }
        return any;
    }

    /** The one of those that stand so to n, other than n, to which all the others stand so. */
    private static int closest(boolean[][] stands, int n) {
        int found = -1;
        for (int d = 0; d < NODES; d++) {
            boolean all = d != n && stands[d][n];
            for (int e = 0; e < NODES; e++) {
                if (e != n && e != d && stands[e][n] && !stands[e][d]) {
                    all = false;
                }
            }
            if (all) {
                found = d;
            }
        }
        return found;
    }

    private int edge(int m) {
        int found = 0;
        for (int n = 0; n < NODES; n++) {
            for (int p : predecessors(n)) {
                if (before[m][p] && (m == n || !before[m][n])) {
                    found |= 1 << n;
                }
            }
        }
        return found;
    }

    private int rulers(int n) {
        int found = 0;
        for (int m = 0; m < NODES; m++) {
            for (int s : successors(m)) {
                if (seen(m) && behind[n][s] && (m == n || !behind[n][m])) {
                    found |= 1 << m;
                }
            }
        }
        return found;
    }

    private TreeSet<Integer> loopOf(int h) {
        TreeSet<Integer> found = new TreeSet<>();
        for (int p : predecessors(h)) {
            if (!before[h][p]) {
                continue;
            }
            found.add(h);
            for (int n = 0; n < NODES; n++) {
                for (List<Integer> way : waysFrom.get(n)) {
                    if (last(way) == p && !way.contains(h)) {
                        found.add(n);
                    }
                }
            }
        }
        return found;
    }

    private static int sum(TreeSet<Integer> set) {
        int sum = 0;
        for (int n : set) {
            sum += 1 << n;
        }
        return sum;
    }

    private boolean isStraight() {
        for (int n = 0; n < NODES; n++) {
            for (int s : successors(n)) {
                if (seen(n) && number[s] <= number[n] && !before[s][n]) {
                    return false;
                }
            }
        }
        return true;
    }

    private int merges(int v) {
        int members = edge(0);
        for (int n = 0; n < NODES; n++) {
            int kind = acts[n][0];
            if (seen(n) && acts[n][1] == v && kind != 0 && kind != 4) {
                members |= edge(n);
            }
        }
        int old;
        do {
            old = members;
            for (int n = 0; n < NODES; n++) {
                members |= (old >> n & 1) != 0 ? edge(n) : 0;
            }
        } while (members != old);
        return members;
    }

    private boolean isLive(int v, int n) {
        for (List<Integer> way : waysFrom.get(n)) {
            int end = last(way);
            boolean replaced = false;
            for (int m : way) {
                replaced |= m != end && replaces(m, v);
            }
            boolean acting = acts[end][0] == 3 ? acts[end][2] == v
                : (acts[end][0] == 2 || acts[end][0] == 4) && acts[end][1] == v;
            boolean testing = ends[end][0] == 2 && ends[end][1] == v && !replaces(end, v);
            if (!replaced && (acting || testing)) {
                return true;
            }
        }
        return false;
    }

    private boolean replaces(int n, int v) {
        int kind = acts[n][0];
        return acts[n][1] == v && (kind == 1 || kind == 3 || kind == 5);
    }

    /** Made wholly anew from the answer before, until it stays: null for a node that is not entered. */
    private int[][] known() {
        int[][] now = new int[NODES][];
        while (true) {
            int[][] next = new int[NODES][];
            next[0] = new int[VARIABLES];
            for (int n = 0; n < NODES; n++) {
                if (now[n] != null) {
                    giveOn(n, now[n], next);
                }
            }
            if (Arrays.deepEquals(now, next)) {
                return now;
            }
            now = next;
        }
    }

    private void giveOn(int n, int[] values, int[][] next) {
        int[] made = values.clone();
        int v = acts[n][1];
        switch (acts[n][0]) {
            case 1 -> made[v] = acts[n][2];
            case 2 -> made[v] = values[v] == 16 ? 16 : (values[v] + acts[n][2]) % 16;
            case 3 -> made[v] = values[acts[n][2]];
            case 5 -> made[v] = 16;
            default -> { }
        }
        List<Integer> to = successors(n);
        if (ends[n][0] == 2 && made[ends[n][1]] != 16) {
            to = List.of(made[ends[n][1]] == 0 ? ends[n][2] : ends[n][3]);
        }
        for (int s : to) {
            if (next[s] == null) {
                next[s] = made.clone();
            }
            for (int w = 0; w < VARIABLES; w++) {
                next[s][w] = next[s][w] == made[w] ? made[w] : 16;
            }
        }
    }

    // The code.

    private boolean isMeeting(int n) {
        int lower = 0;
        for (int p : predecessors(n)) {
            lower += number[p] < number[n] ? 1 : 0;
        }
        return lower > 1;
    }

    private void codeOf(int n, List<Integer> code) {
        boolean head = !loops.get(n).isEmpty();
        if (head) {
            code.add(16 + n);
        }
        List<Integer> meetings = new ArrayList<>();
        for (int m = 0; m < NODES; m++) {
            if (m != 0 && seen(m) && isMeeting(m) && closest(before, m) == n) {
                meetings.add(m);
            }
        }
        meetings.sort((a, b) -> number[b] - number[a]);
        for (int m : meetings) {
            code.add(32 + m);
        }
        code.add(n);
        List<Integer> to = successors(n);
        if (to.isEmpty()) {
            code.add(128);
        } else if (to.size() == 1) {
            wayTo(n, to.get(0), code);
        } else {
            code.add(48 + ends[n][1]);
            wayTo(n, to.get(0), code);
            code.add(64);
            wayTo(n, to.get(1), code);
            code.add(80);
        }
        for (int k = meetings.size() - 1; k >= 0; k--) {
            code.add(80);
            codeOf(meetings.get(k), code);
        }
        if (head) {
            code.add(80);
        }
    }

    private void wayTo(int n, int s, List<Integer> code) {
        if (number[s] <= number[n]) {
            code.add(96 + s);
        } else if (isMeeting(s)) {
            code.add(112 + s);
        } else {
            codeOf(s, code);
        }
    }

    /** The place of the END (or, if wanted, the ELSE) that belongs to the opening word at a place. */
    private static int closing(List<Integer> code, int place, boolean orElse) {
        int open = 0;
        for (int k = place + 1; k < code.size(); k++) {
            int kind = code.get(k) / 16;
            if (open == 0 && (kind == 5 || orElse && kind == 4)) {
                return k;
            }
            open += kind >= 1 && kind <= 3 ? 1 : kind == 5 ? -1 : 0;
        }
        throw new IllegalStateException("no END for the word " + place);
    }

    /** The nodes that a reader of the code comes to who knows blocks and loops, but no ends of nodes. */
    private List<Integer> readCode(List<Integer> code, long input, int limit) {
        List<Integer> come = new ArrayList<>();
        List<Integer> open = new ArrayList<>();
        int[] values = new int[VARIABLES];
        long[] left = {input};
        int k = 0;
        while (come.size() < limit || code.get(k) / 16 != 0) {
            int what = code.get(k) % 16;
            switch (code.get(k) / 16) {
                case 0 -> {
                    come.add(what);
                    doAct(what, values, left);
                    k++;
                }
                case 1, 2 -> open.add(k++);
                case 3 -> {
                    open.add(k);
                    k = values[what] == 0 ? k + 1 : closing(code, k, true) + 1;
                }
                case 4 -> throw new IllegalStateException("the way to x falls through");
                case 5 -> throw new IllegalStateException("an END is come to");
                case 6, 7 -> {
                    int word = code.get(k) / 16 == 6 ? 16 + what : 32 + what;
                    while (code.get(last(open)) != word) {
                        open.remove(open.size() - 1);
                    }
                    int place = last(open);
                    if (word < 32) {
                        k = place + 1;
                    } else {
                        open.remove(open.size() - 1);
                        k = closing(code, place, false) + 1;
                    }
                }
                default -> {
                    come.add(-1);
                    return come;
                }
            }
        }
        return come;
    }

    private int doAct(int n, int[] values, long[] left) {
        int v = acts[n][1];
        switch (acts[n][0]) {
            case 1 -> values[v] = acts[n][2];
            case 2 -> values[v] = (values[v] + acts[n][2]) & 15;
            case 3 -> values[v] = values[acts[n][2]];
            case 4 -> {
                return values[v];
            }
            case 5 -> {
                values[v] = (int) (left[0] & 15);
                left[0] = left[0] >>> 4;
            }
            default -> { }
        }
        return -1;
    }

    // Comparing.

    private void compare() {
        int[][] known = known();
        for (int n = 0; n < NODES; n++) {
            due("number(" + n + ")", shaper.number(n), number[n]);
            due("chief(" + n + ")", shaper.chief(n), !seen(n) || n == 0 ? -1 : closest(before, n));
            due("tail(" + n + ")", shaper.tail(n), seen(n) ? closest(behind, n) : -1);
            due("set(" + n + ", 0)", shaper.set(n, 0), seen(n) ? edge(n) : -1);
            due("set(" + n + ", 1)", shaper.set(n, 1), seen(n) ? rulers(n) : -1);
            due("set(" + n + ", 2)", shaper.set(n, 2), seen(n) ? sum(loops.get(n)) : -1);
            compareLoops(n);
            int live = 0;
            for (int v = 0; v < VARIABLES; v++) {
                live += isLive(v, n) ? 1 << v : 0;
                due("known(" + n + ", " + v + ")", shaper.known(n, v), known[n] == null ? -1 : known[n][v]);
            }
            due("live(" + n + ")", shaper.live(n), seen(n) ? live : -1);
        }
        for (int v = 0; v < VARIABLES; v++) {
            due("merges(" + v + ")", shaper.merges(v), merges(v));
        }
        due("straight()", shaper.straight() ? 1 : 0, isStraight() ? 1 : 0);
        compareCode();
        for (int i = 0; i < 4; i++) {
            compareRun(i == 0 ? 0L : (long) pick(1 << 30) << 34 ^ pick(1 << 30), i == 1 ? pick(1001) : pick(30));
        }
    }

    private void compareLoops(int n) {
        int depth = 0;
        int head = -1;
        for (int h = 0; h < NODES; h++) {
            if (loops.get(h).contains(n)) {
                depth++;
                head = head < 0 || loops.get(h).size() < loops.get(head).size() ? h : head;
            }
        }
        due("depth(" + n + ")", shaper.depth(n), seen(n) ? depth : -1);
        due("head(" + n + ")", shaper.head(n), head);
    }

    private void compareCode() {
        List<Integer> code = new ArrayList<>();
        if (isStraight()) {
            codeOf(0, code);
        }
        due("words()", shaper.words(), isStraight() ? code.size() : -1);
        for (int k = 0; k < code.size(); k++) {
            words.add(shaper.word(k));
            due("word(" + k + ")", words.get(k), code.get(k));
        }
        due("word(" + code.size() + ")", shaper.word(code.size()), -1);
    }

    private void compareRun(long input, int limit) {
        int[] values = new int[VARIABLES];
        long[] left = {input};
        List<Integer> told = new ArrayList<>();
        List<Integer> come = new ArrayList<>();
        int at = 0;
        while (at >= 0 && come.size() < limit) {
            come.add(at);
            int tell = doAct(at, values, left);
            if (tell >= 0) {
                told.add(tell);
            }
            int[] end = ends[at];
            at = end[0] == 0 ? -1 : end[0] == 1 || values[end[1]] == 0 ? end[2] : end[3];
        }
        String call = "run(" + input + ", " + limit + ") ";
        due(call, shaper.run(input, limit), come.size());
        due(call + "ran(0)", shaper.ran(0), values[0] + 16 * (values[1] + 16 * (values[2] + 16 * values[3])));
        due(call + "ran(1)", shaper.ran(1), told.size());
        for (int i = 0; i < 8; i++) {
            int want = i < told.size() ? told.get(told.size() - 1 - i) : -1;
            due(call + "ran(" + (2 + i) + ")", shaper.ran(2 + i), want);
        }
        due(call + "ran(10)", shaper.ran(10), come.isEmpty() ? -1 : last(come));
        due(call + "ran(11)", shaper.ran(11), at < 0 ? 1 : 0);
        if (at < 0) {
            come.add(-1);
        }
        compareReading(call, come, input, limit);
    }

    private void compareReading(String call, List<Integer> come, long input, int limit) {
        if (!words.isEmpty()) {
            List<Integer> read = readCode(words, input, limit);
            due(call + "by the code, which goes " + read + " and not " + come, read.equals(come) ? 1 : 0, 1);
        }
    }
}
