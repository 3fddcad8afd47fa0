/**
 * The sentences of the document's promises that name a boundary case or a refused call: one test each, with the
 * sentence's words and with answers worked out by hand. The sentences of 'Terms' are in TermsTest.
 */
public final class LimitsTest extends Checks {
    public static void main(String[] args) {
        calls();
        refusedConstant();
        newObject();
        actLimits();
        actNumbersNotLookedAt();
        refusedActs();
        endLimits();
        endNumbersNotLookedAt();
        refusedEnds();
        numberRefused();
        chiefRefused();
        tailRefused();
        setSums();
        setOfLoop();
        setRefused();
        depthRefused();
        headOfFewest();
        headRefused();
        straightOrNot();
        mergesRefused();
        liveSums();
        liveRefused();
        knownSeveral();
        knownRefused();
        wordsRefused();
        wordRefused();
        questionsChangeNothing();
        runSteps();
        refusedRuns();
        ranVariables();
        ranTold();
        ranLatest();
        ranLastNode();
        ranStopped();
        ranRefused();
        ranOfLatestRun();
        testWithOneSuccessor();
        finish();
    }

    private static void calls() {
        says("An object is used for at most 512 calls after it has been made");
        GraphShaper g = new GraphShaper();
        does(g, 0, ADD, 0, 1);
        for (int k = 1; k < 509; k += 2) {
            go(g, 0, k % 15 + 1);
            due("call " + (k + 2), g.number(k % 15 + 1), 1);
        }
        due("call 510", g.run(0L, 1000), 2);
        due("call 511", g.ran(0), 1);
        due("call 512", g.words(), 3);
    }

    private static void refusedConstant() {
        says("REFUSED = -1");
        due("REFUSED", GraphShaper.REFUSED, -1);
    }

    // Promise 1.

    private static void newObject() {
        says("A new object: See above");
        GraphShaper g = new GraphShaper();
        due("answers about 0", answersAbout(g, 0), 0, -1, -1, 0, 0, 0, 0, -1, 0, 0, 0, 0, 0);
        for (int n = 1; n < 16; n++) {
            due("answers about " + n, answersAbout(g, n), -1, -1, -1, -1, -1, -1, -1, -1, -1, -1, -1, -1, -1);
        }
        for (int v = 0; v < 4; v++) {
            due("merges(" + v + ")", g.merges(v), 0);
        }
        due("straight()", g.straight(), true);
        code("new", g, 0, STOP_WORD);
        for (int what = 0; what <= 11; what++) {
            due("ran(" + what + ")", g.ran(what), -1);
        }
        GraphShaper other = diamond();
        due("an object beside it", other.number(3), 3);
        due("knows nothing of it", g.number(3), -1);
    }

    // Promise 2.

    private static void actLimits() {
        says("v 0 .. 3, c 0 .. 15, or 0 .. 3 for COPY");
        for (int kind = SET; kind <= READ; kind++) {
            int most = kind == COPY ? 3 : 15;
            GraphShaper g = new GraphShaper();
            for (int node : new int[] {0, 15}) {
                does(g, node, kind, 0, 0);
                does(g, node, kind, 3, most);
                due("node " + node + " of kind " + kind + ", v -1", g.act(node, kind, -1, 0), false);
                due("node " + node + " of kind " + kind + ", v 4", g.act(node, kind, 4, 0), false);
            }
            boolean namesC = kind <= COPY;
            due("kind " + kind + ", c -1", g.act(0, kind, 0, -1), !namesC);
            due("kind " + kind + ", c " + (most + 1), g.act(0, kind, 0, most + 1), !namesC);
        }
    }

    private static void actNumbersNotLookedAt() {
        says("those that the kind does not name are not looked at");
        for (int odd : new int[] {-1, 4, 16, 1 << 16, MIN, MAX}) {
            GraphShaper g = chain(3);
            does(g, 0, NOTHING, odd, odd);
            does(g, 1, READ, 3, odd);
            does(g, 2, TELL, 3, odd);
            due("run", g.run(0x6L, 1000), 4);
            due("READ into 3 with c " + odd, g.ran(0), 0x6000);
            due("TELL of 3 with c " + odd, g.ran(2), 6);
            due("nothing, with v and c " + odd, g.known(1, 0) + g.known(1, 1) + g.known(1, 2) + g.known(1, 3), 0);
            due("nothing is looked at before the READ", g.live(0), 0);
        }
    }

    private static GraphShaper oneAct(int kind) {
        GraphShaper g = diamond();
        does(g, 0, READ, 0, 0);
        does(g, 2, kind, 1, 2);
        due("run", g.run(0x5L, 1000), 3);
        return g;
    }

    private static void refusedActs() {
        says("false, and nothing changes, if a number is not as said");
        for (int kind = SET; kind <= READ; kind++) {
            GraphShaper g = oneAct(kind);
            due("node -1", g.act(-1, SET, 3, 9), false);
            due("node 16", g.act(16, SET, 3, 9), false);
            due("node MIN", g.act(MIN, NOTHING, 0, 0), false);
            due("node MAX", g.act(MAX, NOTHING, 0, 0), false);
            due("kind -1", g.act(2, -1, 3, 9), false);
            due("kind 6", g.act(2, 6, 3, 9), false);
            for (int other = SET; other <= READ; other++) {
                due("v -1 of " + other, g.act(2, other, -1, 3), false);
                due("v 4 of " + other, g.act(2, other, 4, 3), false);
            }
            due("SET c -1", g.act(2, SET, 3, -1), false);
            due("SET c 16", g.act(2, SET, 3, 16), false);
            due("ADD c -1", g.act(2, ADD, 3, -1), false);
            due("ADD c 16", g.act(2, ADD, 3, 16), false);
            due("COPY c -1", g.act(2, COPY, 3, -1), false);
            due("COPY c 4", g.act(2, COPY, 3, 4), false);
            GraphShaper twin = oneAct(kind);
            twins("refused acts over act " + kind, g, twin);
            due("the same steps", g.run(0x75L, 1000), twin.run(0x75L, 1000));
            due("the same variables", g.ran(0), twin.ran(0));
            due("the same values told", g.ran(2), twin.ran(2));
        }
    }

    // Promise 3.

    private static void endLimits() {
        says("The end of a node: likewise");
        GraphShaper g = new GraphShaper();
        for (int node : new int[] {0, 15}) {
            for (int x : new int[] {0, 15}) {
                go(g, node, x);
                test(g, node, 0, x, 15 - x);
                test(g, node, 3, x, 15 - x);
                stop(g, node);
            }
        }
        for (int odd : new int[] {-1, 16, MIN, MAX}) {
            due("STOP of node " + odd, g.end(odd, STOP, 0, 0, 0), false);
            due("GO of node " + odd, g.end(odd, GO, 0, 0, 0), false);
            due("TEST of node " + odd, g.end(odd, TEST, 0, 0, 0), false);
            due("GO to " + odd, g.end(0, GO, 0, odd, 0), false);
            due("TEST with x " + odd, g.end(0, TEST, 0, odd, 0), false);
            due("TEST with y " + odd, g.end(0, TEST, 0, 0, odd), false);
        }
        due("TEST of variable -1", g.end(0, TEST, -1, 0, 0), false);
        due("TEST of variable 4", g.end(0, TEST, 4, 0, 0), false);
        due("kind -1", g.end(0, -1, 0, 0, 0), false);
        due("kind 3", g.end(0, 3, 0, 0, 0), false);
    }

    private static void endNumbersNotLookedAt() {
        says("The end of a node: likewise (those that the kind does not name are not looked at)");
        for (int odd : new int[] {-1, 4, 16, MIN, MAX}) {
            GraphShaper g = chain(2);
            due("GO 2 beside " + odd, g.end(0, GO, odd, 2, odd), true);
            code("GO 2 beside " + odd, g, 0, 2, STOP_WORD);
            due("nothing is looked at by GO", g.live(0), 0);
            due("STOP beside " + odd, g.end(0, STOP, odd, odd, odd), true);
            code("STOP beside " + odd, g, 0, STOP_WORD);
            due("nothing is looked at by STOP", g.live(0), 0);
            due("a run to the STOP", g.run(0L, 1000), 1);
        }
    }

    private static void refusedEnds() {
        says("The end of a node: likewise (false, and nothing changes, if a number is not as said)");
        for (int kind = STOP; kind <= TEST; kind++) {
            GraphShaper g = chain(1);
            GraphShaper twin = chain(1);
            due("an end", g.end(1, kind, 2, 0, 3), true);
            due("an end", twin.end(1, kind, 2, 0, 3), true);
            due("node -1", g.end(-1, GO, 0, 5, 5), false);
            due("node 16", g.end(16, GO, 0, 5, 5), false);
            due("kind -1", g.end(1, -1, 1, 5, 6), false);
            due("kind 3", g.end(1, 3, 1, 5, 6), false);
            due("GO x -1", g.end(1, GO, 1, -1, 6), false);
            due("GO x 16", g.end(1, GO, 1, 16, 6), false);
            due("TEST v -1", g.end(1, TEST, -1, 5, 6), false);
            due("TEST v 4", g.end(1, TEST, 4, 5, 6), false);
            due("TEST x -1", g.end(1, TEST, 1, -1, 6), false);
            due("TEST x 16", g.end(1, TEST, 1, 16, 6), false);
            due("TEST y -1", g.end(1, TEST, 1, 5, -1), false);
            due("TEST y 16", g.end(1, TEST, 1, 5, 16), false);
            twins("refused ends over end " + kind, g, twin);
            due("the same steps", g.run(0L, 7), kind == STOP ? 2 : 7);
        }
    }

    // Promises 4 to 6.

    private static void numberRefused() {
        says("The number of a node; REFUSED if it is not SEEN");
        GraphShaper g = chain(14);
        due("number(14)", g.number(14), 14);
        due("number(15)", g.number(15), -1);
        for (int node : WRONG_NODES) {
            due("number(" + node + ")", g.number(node), -1);
        }
    }

    private static void chiefRefused() {
        says("The chief of a node; REFUSED if it is not SEEN, or node 0");
        GraphShaper g = chain(14);
        due("chief(14)", g.chief(14), 13);
        due("chief(1)", g.chief(1), 0);
        due("chief(0)", g.chief(0), -1);
        due("chief(15)", g.chief(15), -1);
        go(g, 15, 14);
        due("chief(15), with a successor that is seen", g.chief(15), -1);
        for (int node : WRONG_NODES) {
            due("chief(" + node + ")", g.chief(node), -1);
        }
    }

    private static void tailRefused() {
        says("The tail of a node; REFUSED if there is none or it is not SEEN");
        GraphShaper g = chain(14);
        due("tail(0)", g.tail(0), 1);
        due("tail(13)", g.tail(13), 14);
        due("tail(14), there is none", g.tail(14), -1);
        go(g, 15, 14);
        due("tail(15), not seen", g.tail(15), -1);
        for (int node : WRONG_NODES) {
            due("tail(" + node + ")", g.tail(node), -1);
        }
    }

    // Promise 7.

    private static void setSums() {
        says("Sets of nodes are sums of 2^n. The edge (what 0) or the rulers (1) of a node");
        GraphShaper g = new GraphShaper();
        test(g, 0, 0, 14, 13);
        go(g, 14, 15);
        go(g, 13, 15);
        due("the edge of 14", g.set(14, 0), 32768);
        due("the rulers of 14", g.set(14, 1), 1);
        test(g, 15, 0, 0, 15);
        due("the edge of 15", g.set(15, 0), 1 + 32768);
        due("no STOP: the rulers of 15", g.set(15, 1), 0);
        test(g, 15, 0, 15, 1);
        due("with a STOP: the rulers of 15", g.set(15, 1), 32768);
        due("an edge that is empty", g.set(1, 0), 0);
        due("rulers that are none", g.set(1, 1), 0);
    }

    private static void setOfLoop() {
        says("or the nodes of its loop if it is a head, else 0 (2)");
        GraphShaper g = chain(15);
        due("no loop", g.set(0, 2), 0);
        go(g, 15, 0);
        due("all nodes", g.set(0, 2), 65535);
        due("in a loop, but no head", g.set(15, 2), 0);
        go(g, 15, 15);
        due("one node", g.set(15, 2), 32768);
        due("no head any more", g.set(0, 2), 0);
    }

    private static void setRefused() {
        says("REFUSED if it is not SEEN, or for another what");
        GraphShaper g = loops();
        go(g, 5, 1);
        go(g, 6, 6);
        for (int what = -1; what <= 3; what++) {
            due("not seen: set(5, " + what + ")", g.set(5, what), -1);
            due("not seen, its own successor: set(6, " + what + ")", g.set(6, what), -1);
            for (int node : WRONG_NODES) {
                due("set(" + node + ", " + what + ")", g.set(node, what), -1);
            }
        }
        for (int what : new int[] {-1, 3, MIN, MAX}) {
            for (int node = 0; node < 5; node++) {
                due("set(" + node + ", " + what + ")", g.set(node, what), -1);
            }
        }
    }

    // Promises 8 to 10.

    private static void depthRefused() {
        says("In how many loops a node is; REFUSED if it is not SEEN");
        // Each node may go back to the one before it and the last to itself: 16 loops, one in the other.
        GraphShaper g = chain(15);
        due("in none", g.depth(15), 0);
        for (int n = 1; n < 15; n++) {
            test(g, n, 0, n + 1, n - 1);
        }
        test(g, 15, 0, 14, 15);
        for (int n = 0; n < 16; n++) {
            due("depth(" + n + ")", g.depth(n), n + 1);
            due("its own loop has the fewest nodes: head(" + n + ")", g.head(n), n);
        }
        go(g, 14, 0);
        go(g, 15, 14);
        due("not seen", g.depth(15), -1);
        for (int node : WRONG_NODES) {
            due("depth(" + node + ")", g.depth(node), -1);
        }
        GraphShaper all = new GraphShaper();
        for (int n = 0; n < 15; n++) {
            test(all, n, 0, n + 1, n);
        }
        test(all, 15, 0, 0, 15);
        for (int n = 0; n < 16; n++) {
            due("each a loop of its own: depth(" + n + ")", all.depth(n), n == 0 ? 1 : 2);
        }
    }

    private static void headOfFewest() {
        says("The head of the loop with the fewest nodes that a node is in");
        // Loops one in the other: 8 may go back to 7, 9 to 6, .. and 15 to 0, and also to itself.
        GraphShaper g = chain(15);
        for (int n = 8; n < 15; n++) {
            test(g, n, 0, n + 1, 15 - n);
        }
        test(g, 15, 0, 0, 15);
        int[] want = {0, 1, 2, 3, 4, 5, 6, 7, 7, 6, 5, 4, 3, 2, 1, 15};
        for (int n = 0; n < 16; n++) {
            due("head(" + n + ")", g.head(n), want[n]);
        }
        // The same with names that go down: the head of the fewest nodes is not the one with the greatest name.
        GraphShaper down = new GraphShaper();
        go(down, 0, 9);
        go(down, 9, 5);
        test(down, 5, 0, 5, 7);
        test(down, 7, 1, 9, 0);
        due("down: head(5)", down.head(5), 5);
        due("down: head(7)", down.head(7), 9);
        due("down: head(9)", down.head(9), 9);
        due("down: head(0)", down.head(0), 0);
        due("down: depth(5)", down.depth(5), 3);
    }

    private static void headRefused() {
        says("REFUSED if it is in none or not SEEN");
        GraphShaper g = loops();
        go(g, 5, 5);
        due("in none, before the loops", g.head(0), -1);
        due("in none, behind the loops", g.head(4), -1);
        due("not seen, its own successor", g.head(5), -1);
        due("not seen", g.head(6), -1);
        for (int node : WRONG_NODES) {
            due("head(" + node + ")", g.head(node), -1);
        }
    }

    private static void straightOrNot() {
        says("Whether the graph is STRAIGHT");
        GraphShaper g = crooked();
        due("not straight", g.straight(), false);
        due("what can be asked all the same", g.chief(3), 2);
        go(g, 2, 3);
        due("straight again", g.straight(), true);
        test(g, 2, 0, 3, 1);
        due("not straight again", g.straight(), false);
        go(g, 0, 3);
        due("what is crooked is not seen", g.straight(), true);
    }

    // Promises 11 to 13.

    private static void mergesRefused() {
        says("The merges of a variable; REFUSED for another v");
        GraphShaper g = diamond();
        go(g, 3, 0);
        due("merges(0)", g.merges(0), 1);
        due("merges(3)", g.merges(3), 1);
        for (int v : WRONG_VARIABLES) {
            due("merges(" + v + ")", g.merges(v), -1);
        }
        GraphShaper all = new GraphShaper();
        for (int n = 0; n < 16; n++) {
            test(all, n, 0, (n + 1) % 16, 0);
            does(all, n, ADD, 3, 0);
        }
        due("node 0 alone", all.merges(3), 1);
        // The edge of a node are the two that it goes to, so that each one brings the next up to all.
        GraphShaper most = new GraphShaper();
        for (int n = 0; n < 14; n++) {
            test(most, n, 0, n + 1, n + 2);
        }
        test(most, 14, 0, 15, 1);
        test(most, 15, 0, 0, 15);
        does(most, 1, SET, 0, 0);
        due("all nodes", most.merges(0), 65535);
    }

    private static void liveSums() {
        says("The variables (sum of 2^v) that are live at a node");
        GraphShaper g = chain(3);
        due("none", g.live(0), 0);
        for (int v = 0; v < 4; v++) {
            does(g, 3 - v, TELL, v, 0);
            due("variables up to " + v, g.live(0), (2 << v) - 1);
            due("the last alone", g.live(3), 1);
        }
    }

    private static void liveRefused() {
        says("The variables that are live at a node; REFUSED if it is not SEEN");
        GraphShaper g = chain(14);
        does(g, 14, TELL, 0, 0);
        does(g, 15, TELL, 0, 0);
        due("live(14)", g.live(14), 1);
        due("live(15)", g.live(15), -1);
        go(g, 15, 14);
        due("live(15) with a successor that is seen", g.live(15), -1);
        for (int node : WRONG_NODES) {
            due("live(" + node + ")", g.live(node), -1);
        }
    }

    private static void knownSeveral() {
        says("What is known of v at a node: its value; 16 for SEVERAL");
        GraphShaper g = chain(1);
        for (int v = 0; v < 4; v++) {
            for (int value = 0; value < 16; value++) {
                does(g, 0, SET, v, value);
                due("variable " + v + " is " + value, g.known(1, v), value);
            }
            does(g, 0, READ, v, 0);
            due("variable " + v + " is read", g.known(1, v), 16);
            due("another is not", g.known(1, (v + 1) % 4), 0);
        }
    }

    private static void knownRefused() {
        says("REFUSED if the node is not ENTERED, or for another v");
        GraphShaper g = diamond();
        due("entered", g.known(1, 3), 0);
        due("seen, but not entered", g.known(2, 3), -1);
        due("it is seen", g.number(2), 1);
        due("not seen", g.known(15, 0), -1);
        for (int node : WRONG_NODES) {
            due("known(" + node + ", 0)", g.known(node, 0), -1);
        }
        for (int v : WRONG_VARIABLES) {
            for (int node = -1; node <= 16; node++) {
                due("known(" + node + ", " + v + ")", g.known(node, v), -1);
            }
        }
    }

    // Promises 14 and 15.

    private static void wordsRefused() {
        says("How many words the code has; REFUSED if the graph is not STRAIGHT");
        GraphShaper g = crooked();
        due("not straight", g.words(), -1);
        go(g, 2, 3);
        due("straight", g.words(), 12);
        test(g, 2, 1, 1, 3);
        due("not straight again", g.words(), -1);
        stop(g, 0);
        due("the least", g.words(), 2);
    }

    private static void wordRefused() {
        says("Word k (0 the first) of the code; REFUSED likewise, or if there is none");
        GraphShaper g = diamond();
        due("the first", g.word(0), BLOCK + 3);
        due("the last", g.word(11), STOP_WORD);
        for (int k : new int[] {-1, 12, 13, 160, 1000, MIN, MAX}) {
            due("word(" + k + ")", g.word(k), -1);
        }
        stop(g, 0);
        due("a word of the code before", g.word(2), -1);
        due("the last of two", g.word(1), STOP_WORD);
        test(g, 0, 0, 1, 2);
        go(g, 1, 2);
        go(g, 2, 1);
        for (int k = -1; k <= 13; k++) {
            due("not straight: word(" + k + ")", g.word(k), -1);
        }
    }

    private static GraphShaper asked() {
        GraphShaper g = loops();
        does(g, 1, READ, 0, 0);
        does(g, 2, TELL, 0, 0);
        does(g, 3, COPY, 1, 0);
        due("run", g.run(0x70L, 6), 6);
        return g;
    }

    private static void questionsChangeNothing() {
        says("Nothing is promised beyond the answers and state changes described above");
        GraphShaper g = asked();
        for (int odd : new int[] {-1, 5, 16, MAX}) {
            g.number(odd);
            g.chief(odd);
            g.tail(odd);
            g.set(odd, 0);
            g.set(0, odd);
            g.depth(odd);
            g.head(odd);
            g.merges(odd);
            g.live(odd);
            g.known(odd, 0);
            g.known(0, odd);
            g.word(odd + 100);
            g.ran(odd + 20);
        }
        twins("refused questions", g, asked());
    }

    // Promise 16.

    private static void runSteps() {
        says("Runs it with an input, at most limit (0 .. 1000) steps: how many were made");
        GraphShaper g = new GraphShaper();
        go(g, 0, 1);
        go(g, 1, 0);
        does(g, 0, ADD, 0, 1);
        for (int limit : new int[] {0, 1, 2, 3, 16, 31, 32, 999, 1000}) {
            due("endless, limit " + limit, g.run(0L, limit), limit);
            due("its variables", g.ran(0), (limit + 1) / 2 % 16);
        }
        GraphShaper line = chain(15);
        for (int limit = 0; limit <= 18; limit++) {
            due("sixteen nodes, limit " + limit, line.run(0L, limit), limit < 16 ? limit : 16);
        }
        due("sixteen nodes, limit 1000", line.run(0L, 1000), 16);
        GraphShaper never = crooked();
        due("a graph that is not straight", never.run(0L, 1000), 1000);
    }

    private static void refusedRuns() {
        says("REFUSED, and nothing changes, for another limit");
        GraphShaper g = asked();
        for (int limit : new int[] {-1, 1001, -1000, 1 << 20, MIN, MAX}) {
            due("limit " + limit, g.run(0x1234L, limit), -1);
        }
        twins("refused runs", g, asked());
        GraphShaper none = new GraphShaper();
        due("limit -1", none.run(0L, -1), -1);
        due("limit 1001", none.run(0L, 1001), -1);
        for (int what = 0; what <= 11; what++) {
            due("a refused run is none: ran(" + what + ")", none.ran(what), -1);
        }
    }

    // Promise 17.

    private static void ranVariables() {
        says("Of the latest run, what 0: the variables then (sum of 16^v times each)");
        for (int v = 0; v < 4; v++) {
            GraphShaper g = new GraphShaper();
            does(g, 0, SET, v, 15);
            g.run(0L, 1);
            due("variable " + v + " alone", g.ran(0), 15 << (4 * v));
        }
        GraphShaper g = chain(3);
        for (int v = 0; v < 4; v++) {
            does(g, v, READ, v, 0);
        }
        for (int limit = 0; limit <= 4; limit++) {
            g.run(0xDCBAL, limit);
            due("then, not later: limit " + limit, g.ran(0), 0xDCBA & ((1 << (4 * limit)) - 1));
        }
        g.run(-1L, 4);
        due("all of them 15", g.ran(0), 65535);
    }

    private static GraphShaper counting() {
        GraphShaper g = new GraphShaper();
        does(g, 0, TELL, 1, 0);
        go(g, 0, 1);
        does(g, 1, ADD, 1, 1);
        go(g, 1, 0);
        return g;
    }

    private static void ranTold() {
        says("1: how many values were told");
        GraphShaper g = counting();
        for (int told : new int[] {0, 1, 7, 8, 9, 16, 17, 255, 256, 257, 500}) {
            g.run(0L, 2 * told);
            due(told + " told", g.ran(1), told);
        }
        go(g, 0, 0);
        g.run(0L, 1000);
        due("1000 told", g.ran(1), 1000);
        does(g, 0, NOTHING, 0, 0);
        g.run(0L, 1000);
        due("none told", g.ran(1), 0);
    }

    private static void ranLatest() {
        says("2 to 9: the latest, the one before, .. (-1 if there were not so many)");
        GraphShaper g = counting();
        for (int told : new int[] {0, 1, 2, 7, 8, 9, 10, 16, 17, 500}) {
            g.run(0L, 2 * told);
            for (int back = 0; back < 8; back++) {
                int want = back < told ? (told - 1 - back) % 16 : -1;
                due(told + " told: ran(" + (2 + back) + ")", g.ran(2 + back), want);
            }
        }
        g.run(0L, 6);
        int[] fewer = {2, 1, 0, -1, -1, -1, -1, -1};
        for (int back = 0; back < 8; back++) {
            due("three told, after 500: ran(" + (2 + back) + ")", g.ran(2 + back), fewer[back]);
        }
    }

    private static void ranLastNode() {
        says("10: the last node that was come to (-1 if none)");
        GraphShaper g = chain(15);
        due("no step", g.run(0L, 0), 0);
        due("none", g.ran(10), -1);
        for (int limit = 1; limit <= 17; limit++) {
            g.run(0L, limit);
            due("limit " + limit, g.ran(10), limit < 16 ? limit - 1 : 15);
        }
        g.run(0L, 0);
        due("none again", g.ran(10), -1);
    }

    private static void ranStopped() {
        says("11: whether it stopped (1) or not (0)");
        GraphShaper g = chain(15);
        for (int limit = 0; limit <= 17; limit++) {
            g.run(0L, limit);
            due("limit " + limit, g.ran(11), limit < 16 ? 0 : 1);
        }
        go(g, 15, 15);
        g.run(0L, 1000);
        due("endless", g.ran(11), 0);
        GraphShaper one = new GraphShaper();
        one.run(0L, 0);
        due("no step", one.ran(11), 0);
        one.run(0L, 1);
        due("one step", one.ran(11), 1);
    }

    private static void ranRefused() {
        says("REFUSED for another what, or if there was none");
        GraphShaper g = counting();
        for (int what = -1; what <= 12; what++) {
            due("no run: ran(" + what + ")", g.ran(what), -1);
        }
        g.run(0L, 1000);
        for (int what : new int[] {-1, 12, 13, 100, -2, MIN, MAX}) {
            due("ran(" + what + ")", g.ran(what), -1);
        }
        for (int what = 0; what <= 11; what++) {
            due("ran(" + what + ") is answered", g.ran(what) != -1, true);
        }
    }

    private static void ranOfLatestRun() {
        says("Of the latest run");
        GraphShaper g = counting();
        due("run", g.run(0L, 5), 5);
        int[] first = {0x20, 3, 2, 1, 0, -1, -1, -1, -1, -1, 0, 0};
        does(g, 0, SET, 0, 9);
        stop(g, 0);
        due("number(1)", g.number(1), -1);
        for (int what = 0; what <= 11; what++) {
            due("after a change: ran(" + what + ")", g.ran(what), first[what]);
        }
        due("run", g.run(0L, 5), 1);
        int[] second = {9, 0, -1, -1, -1, -1, -1, -1, -1, -1, 0, 1};
        for (int what = 0; what <= 11; what++) {
            due("the second run: ran(" + what + ")", g.ran(what), second[what]);
        }
        due("run", g.run(0L, 0), 0);
        int[] third = {0, 0, -1, -1, -1, -1, -1, -1, -1, -1, -1, 0};
        for (int what = 0; what <= 11; what++) {
            due("a run of no step: ran(" + what + ")", g.ran(what), third[what]);
        }
    }

    // Promise 18.

    private static void testWithOneSuccessor() {
        says("A TEST whose x and y are the same has one successor: its going on in the code is the way to x");
        GraphShaper g = chain(1);
        test(g, 1, 2, 2, 2);
        code("the code of x", g, 0, 1, 2, STOP_WORD);
        due("tail(1)", g.tail(1), 2);
        due("rulers of 2", g.set(2, 1), 0);
        due("edge of 1", g.set(1, 0), 0);
        test(g, 1, 2, 1, 1);
        code("AGAIN, itself", g, 0, LOOP + 1, 1, AGAIN + 1, END);
        test(g, 1, 2, 0, 0);
        code("AGAIN, back", g, LOOP, 0, 1, AGAIN, END);
        GraphShaper half = diamond();
        test(half, 2, 3, 3, 3);
        code("LEAVE", half, BLOCK + 3, 0, IF, 1, LEAVE + 3, ELSE, 2, LEAVE + 3, END, END, 3, STOP_WORD);
        for (int value : new int[] {0, 1, 15}) {
            does(half, 0, SET, 3, value);
            test(half, 0, 3, 2, 2);
            due("a run with " + value, half.run(0L, 1000), 3);
            due("known with " + value, half.known(3, 3), value);
        }
        does(half, 0, READ, 3, 0);
        due("known of several", half.known(3, 3), SEVERAL);
        due("it is looked at", half.live(2), 8);
    }
}
