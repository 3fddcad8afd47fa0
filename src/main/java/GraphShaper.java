/**
 * Small programs drawn as graphs. Sets of nodes and of variables are held as sums of 2^n
 * everywhere; what the graph implies is worked out anew at the first question after a change.
 */
public final class GraphShaper {
    public static final int REFUSED = -1;

    private static final int NODES = 16;
    private static final int VARIABLES = 4;
    private static final int VALUES = 16;
    private static final int KNOWN_CELLS = NODES * VARIABLES;

    private static final int ACT_NOTHING = 0;
    private static final int ACT_SET = 1;
    private static final int ACT_ADD = 2;
    private static final int ACT_COPY = 3;
    private static final int ACT_TELL = 4;
    private static final int ACT_READ = 5;

    private static final int END_STOP = 0;
    private static final int END_GO = 1;
    private static final int END_TEST = 2;

    /** A node has at most two successors. */
    private static final int SIDES = 2;
    private static final int NO_NODE = -1;

    private static final int SEVERAL = 16;
    private static final int NOT_ENTERED = -1;

    private static final int WORD_NODE = 0;
    private static final int WORD_LOOP = 16;
    private static final int WORD_BLOCK = 32;
    private static final int WORD_IF = 48;
    private static final int WORD_ELSE = 64;
    private static final int WORD_END = 80;
    private static final int WORD_AGAIN = 96;
    private static final int WORD_LEAVE = 112;
    private static final int WORD_STOP = 128;

    /** Stands above every word: a task from here on is the code of a node, still to be written. */
    private static final int CODE_OF = 256;
    /** A node is written once and brings at most ten words: LOOP, BLOCK, NODE, IF, ELSE, two jumps, three ENDs. */
    private static final int MOST_WORDS = 10 * NODES;
    private static final int MOST_TASKS = MOST_WORDS + NODES;

    /** A round that changes something lets a node be entered or makes one of its variables SEVERAL. */
    private static final int KNOWN_ROUNDS = NODES * (VARIABLES + 1) + 1;

    private static final int MOST_STEPS = 1000;
    private static final int KEPT_TELLS = 8;

    private final int[] actKind = new int[NODES];
    private final int[] actVariable = new int[NODES];
    private final int[] actOperand = new int[NODES];
    private final int[] endKind = new int[NODES];
    private final int[] endVariable = new int[NODES];
    private final int[] endX = new int[NODES];
    private final int[] endY = new int[NODES];

    private boolean stale = true;
    private int seen;
    private int seenCount;
    private final int[] path = new int[NODES];
    private final int[] pathSide = new int[NODES];
    private final int[] leaving = new int[NODES];
    private final int[] numberOf = new int[NODES];
    private final int[] nodeAt = new int[NODES];
    private final int[] successors = new int[NODES];
    private final int[] predecessors = new int[NODES];
    private final int[] before = new int[NODES];
    private final int[] behind = new int[NODES];
    private final int[] loop = new int[NODES];
    private boolean isStraight;
    private final int[] liveAt = new int[NODES];
    private final int[] knownAt = new int[KNOWN_CELLS];
    private int meetings;
    private final int[] code = new int[MOST_WORDS];
    private int codeCount;
    private final int[] task = new int[MOST_TASKS];
    private int taskCount;

    private boolean hasRun = false;
    private final int[] variable = new int[VARIABLES];
    private long inputLeft;
    private final int[] latestTold = new int[KEPT_TELLS];
    private int toldCount;
    private int lastNode;
    private boolean hasStopped;

    public GraphShaper() {
    }

    public boolean act(int node, int kind, int v, int c) {
        if (!isNode(node) || !isAct(kind, v, c)) {
            return false;
        }
        boolean hasOperand = kind == ACT_SET || kind == ACT_ADD || kind == ACT_COPY;
        actKind[node] = kind;
        actVariable[node] = kind == ACT_NOTHING ? 0 : v;
        actOperand[node] = hasOperand ? c : 0;
        stale = true;
        return true;
    }

    public boolean end(int node, int kind, int v, int x, int y) {
        if (!isNode(node) || !isEnd(kind, v, x, y)) {
            return false;
        }
        endKind[node] = kind;
        endVariable[node] = kind == END_TEST ? v : 0;
        endX[node] = kind == END_STOP ? 0 : x;
        endY[node] = kind == END_TEST ? y : 0;
        stale = true;
        return true;
    }

    public int number(int node) {
        study();
        return isSeen(node) ? numberOf[node] : REFUSED;
    }

    public int chief(int node) {
        study();
        return isSeen(node) ? nearest(before, node) : REFUSED;
    }

    public int tail(int node) {
        study();
        return isSeen(node) ? nearest(behind, node) : REFUSED;
    }

    public int set(int node, int what) {
        study();
        if (!isSeen(node)) {
            return REFUSED;
        }
        switch (what) {
            case 0:
                return edgeOf(node);
            case 1:
                return border(behind, successors, node);
            case 2:
                return loop[node];
            default:
                return REFUSED;
        }
    }

    public int depth(int node) {
        study();
        if (!isSeen(node)) {
            return REFUSED;
        }
        int count = 0;
        for (int h = 0; h < NODES; h++) {
            if (has(loop[h], node)) {
                count++;
            }
        }
        return count;
    }

    public int head(int node) {
        study();
        if (!isSeen(node)) {
            return REFUSED;
        }
        int best = REFUSED;
        int fewest = NODES + 1;
        for (int h = 0; h < NODES; h++) {
            int size = sizeOf(loop[h]);
            if (has(loop[h], node) && size < fewest) {
                best = h;
                fewest = size;
            }
        }
        return best;
    }

    public boolean straight() {
        study();
        return isStraight;
    }

    public int merges(int v) {
        if (!isVariable(v)) {
            return REFUSED;
        }
        study();
        int sources = 1 | changersOf(v);
        int merged = 0;
        // A round that changes the set adds a node to it.
        for (int round = 0; round <= NODES; round++) {
            for (int n = 0; n < NODES; n++) {
                if (has(sources | merged, n)) {
                    merged |= edgeOf(n);
                }
            }
        }
        return merged;
    }

    public int live(int node) {
        study();
        return isSeen(node) ? liveAt[node] : REFUSED;
    }

    public int known(int node, int v) {
        if (!isNode(node) || !isVariable(v)) {
            return REFUSED;
        }
        study();
        int value = knownAt[node * VARIABLES + v];
        return value == NOT_ENTERED ? REFUSED : value;
    }

    public int words() {
        study();
        return isStraight ? codeCount : REFUSED;
    }

    public int word(int k) {
        study();
        return isStraight && k >= 0 && k < codeCount ? code[k] : REFUSED;
    }

    public int run(long input, int limit) {
        if (limit < 0 || limit > MOST_STEPS) {
            return REFUSED;
        }
        startRun(input);
        int steps = 0;
        int at = 0;
        while (steps < limit && at != NO_NODE) {
            lastNode = at;
            doAct(at);
            at = nextInRun(at);
            steps++;
        }
        hasStopped = at == NO_NODE;
        return steps;
    }

    public int ran(int what) {
        if (!hasRun) {
            return REFUSED;
        }
        if (what >= 2 && what < 2 + KEPT_TELLS) {
            return toldBack(what - 2);
        }
        switch (what) {
            case 0:
                return variable[0] + 16 * variable[1] + 256 * variable[2] + 4096 * variable[3];
            case 1:
                return toldCount;
            case 10:
                return lastNode;
            case 11:
                return hasStopped ? 1 : 0;
            default:
                return REFUSED;
        }
    }

    // What a caller may hand over.

    private static boolean isNode(int node) {
        return node >= 0 && node < NODES;
    }

    private static boolean isVariable(int v) {
        return v >= 0 && v < VARIABLES;
    }

    private static boolean isValue(int c) {
        return c >= 0 && c < VALUES;
    }

    private static boolean isAct(int kind, int v, int c) {
        switch (kind) {
            case ACT_NOTHING:
                return true;
            case ACT_SET:
            case ACT_ADD:
                return isVariable(v) && isValue(c);
            case ACT_COPY:
                return isVariable(v) && isVariable(c);
            case ACT_TELL:
            case ACT_READ:
                return isVariable(v);
            default:
                return false;
        }
    }

    private static boolean isEnd(int kind, int v, int x, int y) {
        switch (kind) {
            case END_STOP:
                return true;
            case END_GO:
                return isNode(x);
            case END_TEST:
                return isVariable(v) && isNode(x) && isNode(y);
            default:
                return false;
        }
    }

    private boolean isSeen(int node) {
        return isNode(node) && has(seen, node);
    }

    // Sets.

    private static boolean has(int set, int member) {
        return ((set >> member) & 1) != 0;
    }

    private static int sizeOf(int set) {
        int size = 0;
        for (int n = 0; n < NODES; n++) {
            if (has(set, n)) {
                size++;
            }
        }
        return size;
    }

    // Working out what the graph implies.

    private void study() {
        if (!stale) {
            return;
        }
        stale = false;
        numberNodes();
        linkNodes();
        int stops = stopNodes();
        findCuts(before, successors, 1);
        findCuts(behind, predecessors, stops);
        findLoops();
        findStraight();
        findLive();
        findKnown();
        findMeetings();
        writeCode();
    }

    /** The successor of a node on one side, 0 or 1, or NO_NODE; both sides may lead to the same node. */
    private int successor(int node, int side) {
        if (endKind[node] == END_TEST) {
            return side == 0 ? endX[node] : endY[node];
        }
        return endKind[node] == END_GO && side == 0 ? endX[node] : NO_NODE;
    }

    private void numberNodes() {
        seen = 1;
        seenCount = 0;
        path[0] = 0;
        pathSide[0] = 0;
        int length = 1;
        // A node is looked at once for each side and once to be left.
        for (int turn = 0; turn < NODES * (SIDES + 1) && length > 0; turn++) {
            int n = path[length - 1];
            int side = pathSide[length - 1];
            if (side == SIDES) {
                leaving[seenCount] = n;
                seenCount++;
                length--;
                continue;
            }
            pathSide[length - 1] = side + 1;
            int s = successor(n, side);
            if (s != NO_NODE && !has(seen, s) && length < NODES) {
                seen |= 1 << s;
                path[length] = s;
                pathSide[length] = 0;
                length++;
            }
        }
        for (int k = 0; k < seenCount; k++) {
            int n = leaving[seenCount - 1 - k];
            numberOf[n] = k;
            nodeAt[k] = n;
        }
    }

    private void linkNodes() {
        for (int n = 0; n < NODES; n++) {
            successors[n] = 0;
            predecessors[n] = 0;
        }
        for (int n = 0; n < NODES; n++) {
            for (int side = 0; side < SIDES; side++) {
                int s = successor(n, side);
                if (has(seen, n) && s != NO_NODE) {
                    successors[n] |= 1 << s;
                    predecessors[s] |= 1 << n;
                }
            }
        }
    }

    /** The nodes that ways along the links come to from a set of nodes without the nodes of another set. */
    private static int reach(int[] links, int from, int without) {
        int reached = from & ~without;
        // A shortest way has at most NODES nodes.
        for (int round = 1; round < NODES; round++) {
            for (int n = 0; n < NODES; n++) {
                if (has(reached, n)) {
                    reached |= links[n] & ~without;
                }
            }
        }
        return reached;
    }

    private int stopNodes() {
        int stops = 0;
        for (int n = 0; n < NODES; n++) {
            if (has(seen, n) && endKind[n] == END_STOP) {
                stops |= 1 << n;
            }
        }
        return stops;
    }

    /**
     * The cuts of a node: those without which no way along the links comes from the roots to it. Going forward
     * from node 0 they are the nodes before it, going backward from the STOPs the nodes behind it.
     */
    private static void findCuts(int[] cuts, int[] links, int roots) {
        int reached = reach(links, roots, 0);
        for (int n = 0; n < NODES; n++) {
            cuts[n] = 0;
        }
        for (int d = 0; d < NODES; d++) {
            int missed = reached & ~reach(links, roots, 1 << d);
            for (int n = 0; n < NODES; n++) {
                if (has(missed, n)) {
                    cuts[n] |= 1 << d;
                }
            }
        }
    }

    /** The cut of a node, other than itself, that all its other cuts are cuts of. */
    private static int nearest(int[] cuts, int node) {
        int others = cuts[node] & ~(1 << node);
        for (int d = 0; d < NODES; d++) {
            if (has(others, d) && (others & ~cuts[d]) == 0) {
                return d;
            }
        }
        return REFUSED;
    }

    /** All nodes n that a node is a cut of on the other side of some link, but not of n, unless it is n. */
    private static int border(int[] cuts, int[] links, int node) {
        int found = 0;
        for (int n = 0; n < NODES; n++) {
            for (int p = 0; p < NODES; p++) {
                boolean comesNear = has(links[n], p) && has(cuts[p], node);
                if (comesNear && (n == node || !has(cuts[n], node))) {
                    found |= 1 << n;
                }
            }
        }
        return found;
    }

    private int edgeOf(int node) {
        return border(before, predecessors, node);
    }

    private void findLoops() {
        for (int h = 0; h < NODES; h++) {
            int returning = 0;
            for (int p = 0; p < NODES; p++) {
                if (has(predecessors[h], p) && has(before[p], h)) {
                    returning |= 1 << p;
                }
            }
            int body = reach(predecessors, returning, 1 << h);
            loop[h] = returning == 0 ? 0 : body | (1 << h);
        }
    }

    private void findStraight() {
        isStraight = true;
        for (int n = 0; n < NODES; n++) {
            for (int s = 0; s < NODES; s++) {
                boolean goesBack = has(successors[n], s) && numberOf[s] <= numberOf[n];
                if (goesBack && !has(before[n], s)) {
                    isStraight = false;
                }
            }
        }
    }

    // What an analysis knows of variables.

    private int changersOf(int v) {
        int found = 0;
        for (int n = 0; n < NODES; n++) {
            boolean changes = actKind[n] == ACT_ADD || replacedBy(n) != 0;
            if (has(seen, n) && changes && actVariable[n] == v) {
                found |= 1 << n;
            }
        }
        return found;
    }

    /** The variables whose old values the act of a node takes away unseen: ADD is none of these acts. */
    private int replacedBy(int node) {
        int kind = actKind[node];
        boolean replaces = kind == ACT_SET || kind == ACT_COPY || kind == ACT_READ;
        return replaces ? 1 << actVariable[node] : 0;
    }

    /** The variables that a node looks at with the value that they have when it is come to. */
    private int lookedAtBy(int node) {
        int kind = actKind[node];
        int looked = 0;
        if (kind == ACT_ADD || kind == ACT_TELL) {
            looked = 1 << actVariable[node];
        }
        if (kind == ACT_COPY) {
            looked = 1 << actOperand[node];
        }
        if (endKind[node] == END_TEST) {
            looked |= (1 << endVariable[node]) & ~replacedBy(node);
        }
        return looked;
    }

    private void findLive() {
        for (int n = 0; n < NODES; n++) {
            liveAt[n] = lookedAtBy(n);
        }
        // A shortest way to the node that looks has at most NODES nodes.
        for (int round = 1; round < NODES; round++) {
            for (int n = 0; n < NODES; n++) {
                liveAt[n] |= liveBehind(n) & ~replacedBy(n);
            }
        }
    }

    private int liveBehind(int node) {
        int found = 0;
        for (int s = 0; s < NODES; s++) {
            if (has(successors[node], s)) {
                found |= liveAt[s];
            }
        }
        return found;
    }

    /** What the act of a node makes of v, if the variables' values stand in a row from a place on. */
    private int made(int[] values, int place, int node, int v) {
        int old = values[place + v];
        if (v != actVariable[node]) {
            return old;
        }
        switch (actKind[node]) {
            case ACT_SET:
                return actOperand[node];
            case ACT_ADD:
                return old == SEVERAL ? SEVERAL : (old + actOperand[node]) % VALUES;
            case ACT_COPY:
                return values[place + actOperand[node]];
            case ACT_READ:
                return SEVERAL;
            default:
                return old;
        }
    }

    private void findKnown() {
        for (int i = 0; i < KNOWN_CELLS; i++) {
            knownAt[i] = i < VARIABLES ? 0 : NOT_ENTERED;
        }
        boolean changed = true;
        for (int round = 0; round < KNOWN_ROUNDS && changed; round++) {
            changed = false;
            for (int n = 0; n < NODES; n++) {
                if (knownAt[n * VARIABLES] != NOT_ENTERED && giveOn(n)) {
                    changed = true;
                }
            }
        }
    }

    /** Lets an entered node give to its successors; whether that told one of them something new. */
    private boolean giveOn(int node) {
        int tested = made(knownAt, node * VARIABLES, node, endVariable[node]);
        boolean choosing = endKind[node] == END_TEST && tested != SEVERAL;
        int chosen = tested == 0 ? 0 : 1;
        boolean news = false;
        for (int side = 0; side < SIDES; side++) {
            int s = successor(node, side);
            boolean taken = s != NO_NODE && (!choosing || side == chosen);
            if (taken && give(node, s)) {
                news = true;
            }
        }
        return news;
    }

    private boolean give(int from, int to) {
        boolean news = false;
        // A node may give to itself here and so read cells while it writes them: it writes at most the one
        // of the variable that its act changes, and no other variable is made from that.
        for (int v = 0; v < VARIABLES; v++) {
            int given = made(knownAt, from * VARIABLES, from, v);
            int cell = to * VARIABLES + v;
            int had = knownAt[cell];
            int joined = had == NOT_ENTERED || had == given ? given : SEVERAL;
            if (joined != had) {
                knownAt[cell] = joined;
                news = true;
            }
        }
        return news;
    }

    // The code.

    private void findMeetings() {
        meetings = 0;
        for (int n = 0; n < NODES; n++) {
            int lower = 0;
            for (int p = 0; p < NODES; p++) {
                if (has(predecessors[n], p) && numberOf[p] < numberOf[n]) {
                    lower++;
                }
            }
            if (lower > 1) {
                meetings |= 1 << n;
            }
        }
    }

    private void writeCode() {
        codeCount = 0;
        taskCount = 0;
        if (!isStraight) {
            return;
        }
        addTask(CODE_OF);
        for (int turn = 0; turn < MOST_TASKS && taskCount > 0; turn++) {
            taskCount--;
            int next = task[taskCount];
            if (next >= CODE_OF) {
                openNode(next - CODE_OF);
                addGoingOn(next - CODE_OF);
            } else {
                addWord(next);
            }
        }
    }

    private void addWord(int written) {
        if (codeCount < MOST_WORDS) {
            code[codeCount] = written;
            codeCount++;
        }
    }

    /** The task added last is done first: what comes later in the code is added earlier. */
    private void addTask(int next) {
        if (taskCount < MOST_TASKS) {
            task[taskCount] = next;
            taskCount++;
        }
    }

    /** Writes the beginning of a node's code, up to NODE, and leaves what stands behind its going on as tasks. */
    private void openNode(int node) {
        if (loop[node] != 0) {
            addWord(WORD_LOOP + node);
            addTask(WORD_END);
        }
        for (int k = seenCount - 1; k >= 0; k--) {
            int m = nodeAt[k];
            if (has(meetings, m) && nearest(before, m) == node) {
                addWord(WORD_BLOCK + m);
                addTask(CODE_OF + m);
                addTask(WORD_END);
            }
        }
        addWord(WORD_NODE + node);
    }

    private void addGoingOn(int node) {
        if (endKind[node] == END_STOP) {
            addTask(WORD_STOP);
            return;
        }
        int wayToX = wayTo(node, endX[node]);
        if (endKind[node] == END_GO || endX[node] == endY[node]) {
            addTask(wayToX);
            return;
        }
        int wayToY = wayTo(node, endY[node]);
        addTask(WORD_END);
        addTask(wayToY);
        addTask(WORD_ELSE);
        addTask(wayToX);
        addTask(WORD_IF + endVariable[node]);
    }

    private int wayTo(int node, int s) {
        if (numberOf[s] <= numberOf[node]) {
            return WORD_AGAIN + s;
        }
        return has(meetings, s) ? WORD_LEAVE + s : CODE_OF + s;
    }

    // Running.

    private void startRun(long input) {
        hasRun = true;
        inputLeft = input;
        for (int v = 0; v < VARIABLES; v++) {
            variable[v] = 0;
        }
        toldCount = 0;
        lastNode = NO_NODE;
    }

    private void doAct(int node) {
        int v = actVariable[node];
        if (actKind[node] == ACT_TELL) {
            latestTold[toldCount % KEPT_TELLS] = variable[v];
            toldCount++;
        } else if (actKind[node] == ACT_READ) {
            variable[v] = (int) (inputLeft & 15);
            inputLeft >>>= 4;
        } else {
            variable[v] = made(variable, 0, node, v);
        }
    }

    private int nextInRun(int node) {
        boolean toY = endKind[node] == END_TEST && variable[endVariable[node]] != 0;
        return successor(node, toY ? 1 : 0);
    }

    private int toldBack(int back) {
        return back < toldCount ? latestTold[(toldCount - 1 - back) % KEPT_TELLS] : -1;
    }
}
