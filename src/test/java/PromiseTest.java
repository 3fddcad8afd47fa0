/**
 * For each promise of the document: ordinary inputs, the edges that it names, and wrong inputs,
 * with answers worked out by hand.
 */
public final class PromiseTest extends Checks {
    public static void main(String[] args) {
        newObject();
        act();
        refusedActs();
        end();
        refusedEnds();
        number();
        chief();
        tail();
        edge();
        rulers();
        loopSet();
        depthAndHead();
        straight();
        merges();
        live();
        known();
        words();
        nestedMeetings();
        run();
        ran();
        oneSuccessor();
        answersFollowChanges();
        finish();
    }

    // Promise 1.
    private static void newObject() {
        due("REFUSED", GraphShaper.REFUSED, -1);
        GraphShaper g = new GraphShaper();
        due("new number(0)", g.number(0), 0);
        for (int n = 1; n < 16; n++) {
            due("new number(" + n + ")", g.number(n), -1);
        }
        due("new straight()", g.straight(), true);
        due("new ran(11)", g.ran(11), -1);
        due("new run", g.run(-1L, 1000), 1);
        due("new ran(11) after a run", g.ran(11), 1);
        code("new", g, 0, 128);
        for (int n = 0; n < 16; n++) {
            GraphShaper chained = new GraphShaper();
            go(chained, 0, n);
            due("act of node " + n + " is at first nothing", chained.run(-1L, 2), 2);
            due("variables", chained.ran(0), 0);
            due("told", chained.ran(1), 0);
            due("end of node " + n + " is at first STOP", chained.ran(11), n == 0 ? 0 : 1);
        }
        GraphShaper other = new GraphShaper();
        go(g, 0, 5);
        due("objects are apart", other.number(5), -1);
    }

    // Promise 2.
    private static void act() {
        GraphShaper g = new GraphShaper();
        for (int n = 0; n < 15; n++) {
            go(g, n, n + 1);
        }
        does(g, 0, SET, 0, 15);
        does(g, 1, ADD, 0, 15);
        does(g, 2, COPY, 3, 0);
        does(g, 3, TELL, 3, 0);
        does(g, 4, READ, 2, 0);
        does(g, 5, NOTHING, 0, 0);
        does(g, 15, SET, 1, 0);
        due("run of all acts", g.run(0x7L, 1000), 16);
        due("variables of all acts", g.ran(0), 14 + 256 * 7 + 4096 * 14);
        due("told by the acts", g.ran(2), 14);
        does(g, 0, SET, 0, 1);
        does(g, 1, NOTHING, 0, 0);
        g.run(0x7L, 1000);
        due("variables after other acts", g.ran(0), 1 + 256 * 7 + 4096);
        does(g, 0, NOTHING, -5, 99);
        does(g, 1, NOTHING, MIN, MAX);
        does(g, 3, TELL, 2, -1);
        does(g, 4, READ, 3, 1 << 30);
        does(g, 5, TELL, 3, MIN);
        g.run(0x9L, 1000);
        due("variables where numbers are not looked at", g.ran(0), 4096 * 9);
        due("latest told", g.ran(2), 9);
        due("told before", g.ran(3), 0);
    }

    private static void refusedActs() {
        GraphShaper g = new GraphShaper();
        does(g, 0, ADD, 1, 3);
        for (int node : WRONG_NODES) {
            due("act of node " + node, g.act(node, SET, 0, 0), false);
            due("act 0 of node " + node, g.act(node, NOTHING, 0, 0), false);
        }
        for (int kind : new int[] {-1, 6, 7, 16, MIN, MAX}) {
            due("act of kind " + kind, g.act(0, kind, 0, 0), false);
        }
        for (int v : WRONG_VARIABLES) {
            for (int kind = SET; kind <= READ; kind++) {
                due("act " + kind + " of variable " + v, g.act(0, kind, v, 0), false);
            }
        }
        for (int c : new int[] {-1, 16, 17, MIN, MAX}) {
            due("SET to " + c, g.act(0, SET, 0, c), false);
            due("ADD of " + c, g.act(0, ADD, 0, c), false);
        }
        for (int c : new int[] {-1, 4, 15, 16, MIN, MAX}) {
            due("COPY of " + c, g.act(0, COPY, 0, c), false);
        }
        g.run(0L, 1);
        due("a refused act changes nothing", g.ran(0), 48);
        due("a refused act changes no liveness", g.live(0), 2);
    }

    // Promise 3.
    private static void end() {
        GraphShaper g = new GraphShaper();
        test(g, 0, 3, 15, 14);
        does(g, 14, SET, 0, 14);
        does(g, 15, SET, 0, 15);
        due("TEST goes on", g.run(0L, 9), 2);
        due("x if it is 0", g.ran(10), 15);
        does(g, 0, SET, 3, 8);
        due("TEST goes on", g.run(0L, 9), 2);
        due("else y", g.ran(10), 14);
        go(g, 0, 13);
        g.run(0L, 9);
        due("GO x", g.ran(10), 13);
        due("end(0, STOP) looks at nothing else", g.end(0, STOP, -1, 16, -1), true);
        due("STOP stops", g.run(0L, 9), 1);
        due("end(0, GO) looks at x alone", g.end(0, GO, -1, 0, 16), true);
        due("GO to itself", g.run(0L, 9), 9);
    }

    private static void refusedEnds() {
        GraphShaper g = new GraphShaper();
        go(g, 0, 1);
        for (int node : WRONG_NODES) {
            due("STOP of node " + node, g.end(node, STOP, 0, 0, 0), false);
            due("GO of node " + node, g.end(node, GO, 0, 0, 0), false);
            due("GO to " + node, g.end(0, GO, 0, node, 0), false);
            due("TEST to x " + node, g.end(0, TEST, 0, node, 0), false);
            due("TEST to y " + node, g.end(0, TEST, 0, 0, node), false);
        }
        for (int kind : new int[] {-1, 3, 4, MIN, MAX}) {
            due("end of kind " + kind, g.end(0, kind, 0, 0, 0), false);
        }
        for (int v : WRONG_VARIABLES) {
            due("TEST of " + v, g.end(0, TEST, v, 0, 0), false);
        }
        due("a refused end changes nothing", g.run(0L, 9), 2);
        due("a refused end leaves GO", g.ran(10), 1);
    }

    // Promise 4.
    private static void number() {
        GraphShaper g = diamond();
        int[] want = {0, 2, 1, 3};
        for (int n = 0; n < 4; n++) {
            due("diamond number(" + n + ")", g.number(n), want[n]);
        }
        due("diamond number(4)", g.number(4), -1);
        test(g, 0, 0, 2, 1);
        due("turned diamond number(1)", g.number(1), 1);
        due("turned diamond number(2)", g.number(2), 2);
        for (int node : WRONG_NODES) {
            due("number(" + node + ")", g.number(node), -1);
        }
        GraphShaper unseen = new GraphShaper();
        go(unseen, 1, 0);
        due("a predecessor of node 0 that is not seen", unseen.number(1), -1);
        GraphShaper chain = new GraphShaper();
        go(chain, 0, 15);
        for (int n = 15; n > 1; n--) {
            test(chain, n, 0, n - 1, 0);
        }
        for (int n = 1; n < 16; n++) {
            due("chain number(" + n + ")", chain.number(n), 16 - n);
        }
    }

    // Promise 5.
    private static void chief() {
        GraphShaper g = diamond();
        due("diamond chief(0)", g.chief(0), -1);
        due("diamond chief(1)", g.chief(1), 0);
        due("diamond chief(2)", g.chief(2), 0);
        due("diamond chief(3)", g.chief(3), 0);
        due("diamond chief(4)", g.chief(4), -1);
        go(g, 3, 0);
        due("chief(0) in a loop", g.chief(0), -1);
        g = loops();
        due("loops chief(1)", g.chief(1), 0);
        due("loops chief(2)", g.chief(2), 1);
        due("loops chief(4)", g.chief(4), 3);
        g = crooked();
        due("crooked chief(1)", g.chief(1), 0);
        due("crooked chief(2)", g.chief(2), 0);
        due("crooked chief(3)", g.chief(3), 2);
        go(g, 5, 3);
        due("a predecessor that is not seen does not count", g.chief(3), 2);
        for (int node : WRONG_NODES) {
            due("chief(" + node + ")", g.chief(node), -1);
        }
    }

    // Promise 6.
    private static void tail() {
        GraphShaper g = diamond();
        due("diamond tail(0)", g.tail(0), 3);
        due("diamond tail(1)", g.tail(1), 3);
        due("diamond tail(3)", g.tail(3), -1);
        due("diamond tail(4)", g.tail(4), -1);
        due("end(2, STOP)", g.end(2, STOP, 0, 0, 0), true);
        due("two STOPs: tail(0)", g.tail(0), -1);
        due("two STOPs: tail(1)", g.tail(1), 3);
        go(g, 2, 2);
        due("a way without an end does not count", g.tail(0), 1);
        due("no way to a STOP: tail(2)", g.tail(2), -1);
        g = loops();
        due("loops tail(0)", g.tail(0), 1);
        due("loops tail(2)", g.tail(2), 3);
        due("loops tail(3)", g.tail(3), 4);
        go(g, 4, 0);
        due("never stopping: tail(0)", g.tail(0), -1);
        for (int node : WRONG_NODES) {
            due("tail(" + node + ")", g.tail(node), -1);
        }
    }

    // Promise 7.
    private static void edge() {
        GraphShaper g = diamond();
        due("diamond edge of 0", g.set(0, 0), 0);
        due("diamond edge of 1", g.set(1, 0), 8);
        due("diamond edge of 2", g.set(2, 0), 8);
        due("diamond edge of 3", g.set(3, 0), 0);
        due("diamond edge of 4", g.set(4, 0), -1);
        g = loops();
        due("loops edge of 1, which is in it itself", g.set(1, 0), 2);
        due("loops edge of 2", g.set(2, 0), 6);
        due("loops edge of 3", g.set(3, 0), 2);
        due("loops edge of 4", g.set(4, 0), 0);
        go(g, 4, 0);
        due("edge of 0 with a way back", g.set(0, 0), 1);
        due("edge of 4 with a way back", g.set(4, 0), 1);
        for (int node : WRONG_NODES) {
            due("set(" + node + ", 0)", g.set(node, 0), -1);
        }
        for (int what : new int[] {-1, 3, 4, MIN, MAX}) {
            due("set(0, " + what + ")", g.set(0, what), -1);
        }
    }

    private static void rulers() {
        GraphShaper g = diamond();
        due("diamond rulers of 0", g.set(0, 1), 0);
        due("diamond rulers of 1", g.set(1, 1), 1);
        due("diamond rulers of 2", g.set(2, 1), 1);
        due("diamond rulers of 3", g.set(3, 1), 0);
        due("diamond rulers of 4", g.set(4, 1), -1);
        g = loops();
        due("loops rulers of 2", g.set(2, 1), 4 + 8);
        due("loops rulers of 3, also itself", g.set(3, 1), 8);
        due("loops rulers of 4", g.set(4, 1), 0);
        go(g, 4, 4);
        due("nothing is behind without a STOP", g.set(3, 1), 0);
        for (int node : WRONG_NODES) {
            due("set(" + node + ", 1)", g.set(node, 1), -1);
        }
    }

    private static void loopSet() {
        GraphShaper g = loops();
        due("loops loop of 0, no head", g.set(0, 2), 0);
        due("loops loop of 1", g.set(1, 2), 2 + 4 + 8);
        due("loops loop of 2, itself alone", g.set(2, 2), 4);
        due("loops loop of 3", g.set(3, 2), 0);
        due("loops loop of 5, not seen", g.set(5, 2), -1);
        g = crooked();
        due("crooked loop of 1", g.set(1, 2), 0);
        due("crooked loop of 2", g.set(2, 2), 0);
        g = diamond();
        go(g, 1, 0);
        test(g, 2, 1, 0, 3);
        due("two ways back make one loop", g.set(0, 2), 7);
        for (int node : WRONG_NODES) {
            due("set(" + node + ", 2)", g.set(node, 2), -1);
        }
    }

    // Promises 8 and 9.
    private static void depthAndHead() {
        GraphShaper g = loops();
        int[] depths = {0, 1, 2, 1, 0, -1};
        int[] heads = {-1, 1, 2, 1, -1, -1};
        for (int n = 0; n < depths.length; n++) {
            due("loops depth(" + n + ")", g.depth(n), depths[n]);
            due("loops head(" + n + ")", g.head(n), heads[n]);
        }
        go(g, 4, 0);
        due("a third loop: depth(2)", g.depth(2), 3);
        due("a third loop: head(4)", g.head(4), 0);
        due("a third loop: head(3)", g.head(3), 1);
        for (int node : WRONG_NODES) {
            due("depth(" + node + ")", g.depth(node), -1);
            due("head(" + node + ")", g.head(node), -1);
        }
        // The inner head has the lower name here, so the answer cannot come from the nodes' order.
        GraphShaper inner = new GraphShaper();
        go(inner, 0, 5);
        go(inner, 5, 2);
        test(inner, 2, 0, 3, 6);
        go(inner, 3, 2);
        test(inner, 6, 1, 5, 7);
        due("inner head(3)", inner.head(3), 2);
        due("inner head(2)", inner.head(2), 2);
        due("inner head(6)", inner.head(6), 5);
        due("inner depth(3)", inner.depth(3), 2);
        due("inner loop of 5", inner.set(5, 2), 4 + 8 + 32 + 64);
    }

    // Promise 10.
    private static void straight() {
        due("diamond straight()", diamond().straight(), true);
        due("loops straight()", loops().straight(), true);
        GraphShaper g = crooked();
        due("crooked straight()", g.straight(), false);
        test(g, 2, 1, 2, 3);
        due("a node that goes on with itself", g.straight(), true);
        test(g, 2, 1, 0, 3);
        due("back to node 0", g.straight(), true);
        go(g, 4, 5);
        test(g, 5, 0, 4, 5);
        test(g, 6, 0, 4, 5);
        due("what is not seen does not count", g.straight(), true);
    }

    // Promise 11.
    private static void merges() {
        GraphShaper g = diamond();
        due("diamond without a change", g.merges(0), 0);
        does(g, 1, SET, 0, 3);
        due("SET", g.merges(0), 8);
        due("of another variable", g.merges(1), 0);
        does(g, 1, ADD, 1, 0);
        due("ADD", g.merges(1), 8);
        due("no SET any more", g.merges(0), 0);
        does(g, 1, COPY, 2, 3);
        due("COPY", g.merges(2), 8);
        due("COPY of it", g.merges(3), 0);
        does(g, 1, READ, 3, 0);
        due("READ", g.merges(3), 8);
        does(g, 1, TELL, 3, 0);
        due("TELL", g.merges(3), 0);
        does(g, 1, NOTHING, 0, 0);
        due("nothing", g.merges(0), 0);
        does(g, 5, SET, 0, 3);
        go(g, 5, 3);
        due("a change that is not seen", g.merges(0), 0);
        for (int v : WRONG_VARIABLES) {
            due("merges(" + v + ")", g.merges(v), -1);
        }
        g = loops();
        go(g, 4, 0);
        due("edge of node 0", g.merges(3), 1);
        // The edge of 3 is 1; only as a member does 1 bring its own edge, 6.
        GraphShaper far = new GraphShaper();
        test(far, 0, 0, 8, 5);
        test(far, 8, 0, 2, 3);
        go(far, 2, 1);
        go(far, 3, 1);
        go(far, 1, 6);
        go(far, 5, 6);
        does(far, 3, SET, 2, 9);
        due("members bring their edges", far.merges(2), 2 + 64);
        due("without a change nothing merges", far.merges(1), 0);
        GraphShaper two = diamond();
        test(two, 3, 0, 4, 5);
        go(two, 4, 6);
        go(two, 5, 6);
        does(two, 1, SET, 0, 1);
        does(two, 5, ADD, 0, 1);
        due("two changes", two.merges(0), 8 + 64);
    }

    // Promise 12.
    private static void live() {
        GraphShaper g = new GraphShaper();
        go(g, 0, 1);
        due("nothing is looked at", g.live(0), 0);
        does(g, 1, TELL, 2, 0);
        due("TELL", g.live(0), 4);
        does(g, 0, SET, 2, 0);
        due("SET replaces", g.live(0), 0);
        due("SET replaces not behind it", g.live(1), 4);
        does(g, 0, ADD, 2, 1);
        due("ADD looks and does not replace", g.live(0), 4);
        does(g, 1, NOTHING, 0, 0);
        due("ADD looks", g.live(0), 4);
        does(g, 0, COPY, 1, 3);
        due("COPY looks at c", g.live(0), 8);
        does(g, 1, TELL, 1, 0);
        due("COPY replaces v", g.live(0), 8);
        does(g, 0, COPY, 1, 1);
        due("COPY of itself", g.live(0), 2);
        does(g, 0, READ, 1, 0);
        due("READ replaces", g.live(0), 0);
        test(g, 0, 1, 1, 2);
        due("TEST behind a READ", g.live(0), 0);
        test(g, 0, 3, 1, 2);
        due("TEST", g.live(0), 8);
        does(g, 0, ADD, 3, 1);
        due("TEST behind an ADD", g.live(0), 2 + 8);
        does(g, 0, TELL, 0, 0);
        due("TELL and TEST", g.live(0), 1 + 2 + 8);
        does(g, 0, NOTHING, 0, 0);
        test(g, 0, 3, 2, 2);
        due("TEST with one successor", g.live(0), 8);
        due("not seen", g.live(1), -1);
        for (int node : WRONG_NODES) {
            due("live(" + node + ")", g.live(node), -1);
        }
        GraphShaper back = loops();
        does(back, 1, TELL, 3, 0);
        does(back, 4, TELL, 2, 0);
        due("around the loop", back.live(2), 1 + 2 + 4 + 8);
        does(back, 3, SET, 3, 1);
        due("replaced on the way back", back.live(2), 1 + 2 + 4);
        does(back, 3, READ, 1, 1);
        due("replaced in the node of the TEST", back.live(3), 1 + 4 + 8);
    }

    // Promise 13.
    private static void known() {
        GraphShaper g = diamond();
        due("known(0, 0)", g.known(0, 0), 0);
        due("known(1, 0)", g.known(1, 0), 0);
        due("one way only", g.known(2, 0), -1);
        does(g, 0, SET, 0, 7);
        due("at a node is before its act", g.known(0, 0), 0);
        due("the other way", g.known(1, 0), -1);
        due("a SET value", g.known(2, 0), 7);
        does(g, 2, ADD, 0, 12);
        due("sums are modulo 16", g.known(3, 0), 3);
        does(g, 2, COPY, 3, 0);
        due("a copied value", g.known(3, 3), 7);
        due("the copied one", g.known(3, 0), 7);
        does(g, 0, READ, 0, 0);
        due("READ gives several", g.known(1, 0), 16);
        due("both ways", g.known(2, 0), 16);
        due("copied several", g.known(3, 3), 16);
        does(g, 1, COPY, 3, 0);
        due("several from both sides", g.known(3, 3), 16);
        does(g, 1, SET, 2, 5);
        does(g, 2, SET, 2, 5);
        due("the same from both sides", g.known(3, 2), 5);
        does(g, 2, SET, 2, 6);
        due("different from both sides", g.known(3, 2), 16);
        does(g, 1, ADD, 0, 1);
        does(g, 2, SET, 0, 0);
        due("several and a sum", g.known(3, 0), 16);
        does(g, 1, SET, 0, 0);
        due("SET of several", g.known(3, 0), 0);
        due("TELL", g.act(2, TELL, 0, 0), true);
        due("TELL changes nothing", g.known(3, 0), 16);
        for (int node : WRONG_NODES) {
            due("known(" + node + ", 0)", g.known(node, 0), -1);
        }
        for (int v : WRONG_VARIABLES) {
            due("known(0, " + v + ")", g.known(0, v), -1);
        }
        due("known(4, 0)", g.known(4, 0), -1);
        knownInLoops();
    }

    private static void knownInLoops() {
        GraphShaper g = new GraphShaper();
        does(g, 0, ADD, 1, 1);
        go(g, 0, 0);
        due("node 0 from different sides", g.known(0, 1), 16);
        due("node 0 otherwise", g.known(0, 0), 0);
        GraphShaper late = loops();
        does(late, 0, SET, 0, 1);
        does(late, 3, ADD, 1, 1);
        due("the loop is not gone around", late.known(1, 1), 0);
        due("it is left at once", late.known(4, 1), 1);
        does(late, 3, READ, 2, 0);
        due("a test of 0 goes back always", late.known(4, 1), -1);
        due("and brings several", late.known(1, 2), 16);
        // The TEST's variable is looked at after the act of its node.
        GraphShaper after = diamond();
        does(after, 0, ADD, 0, 1);
        due("the act is before the TEST", after.known(1, 0), -1);
        due("y is entered", after.known(2, 0), 1);
        does(after, 0, ADD, 0, 0);
        due("a sum of 0", after.known(1, 0), 0);
        does(after, 0, READ, 0, 0);
        due("no value is learnt from a TEST", after.known(1, 0), 16);
        longestWay();
    }

    /** A chain against the order of the nodes' names and around again. */
    private static void longestWay() {
        GraphShaper g = new GraphShaper();
        go(g, 0, 15);
        for (int n = 15; n > 1; n--) {
            go(g, n, n - 1);
            does(g, n, ADD, 0, 1);
        }
        due("known at the end", g.known(1, 0), 14);
        due("chief at the end", g.chief(1), 2);
        due("tail at the beginning", g.tail(0), 15);
        does(g, 1, TELL, 3, 0);
        due("live at the beginning", g.live(0), 1 + 8);
        go(g, 1, 0);
        due("known in a ring", g.known(15, 0), 16);
        due("known in a ring at its end", g.known(1, 0), 16);
        due("others are known", g.known(1, 3), 0);
        due("the ring is a loop", g.set(0, 2), 65535);
    }

    // Promises 14 and 15.
    private static void words() {
        code("diamond", diamond(), 32 + 3, 0, 48, 1, 112 + 3, 64, 2, 112 + 3, 80, 80, 3, 128);
        code("loops", loops(), 0, 16 + 1, 1, 16 + 2, 2, 48, 96 + 2, 64, 3, 48 + 1, 96 + 1, 64, 4, 128,
            80, 80, 80, 80);
        GraphShaper g = crooked();
        due("crooked words()", g.words(), -1);
        for (int k = -1; k < 4; k++) {
            due("crooked word(" + k + ")", g.word(k), -1);
        }
        GraphShaper self = new GraphShaper();
        go(self, 0, 0);
        code("self", self, 16, 0, 96, 80);
        GraphShaper many = new GraphShaper();
        for (int n = 0; n < 15; n++) {
            test(many, n, n % 4, n, n + 1);
        }
        int count = many.words();
        due("many words()", count, 15 * 7 + 2);
        due("many last word", many.word(count - 1), 80);
    }

    private static void nestedMeetings() {
        // Node 0 is the chief of 4 and of 5: 5 has the greater number, so its block is the outer one.
        GraphShaper g = new GraphShaper();
        test(g, 0, 3, 1, 2);
        test(g, 1, 2, 4, 5);
        test(g, 2, 1, 4, 5);
        go(g, 4, 5);
        due("nested number(4)", g.number(4), 3);
        due("nested number(5)", g.number(5), 4);
        code("nested", g, 32 + 5, 32 + 4, 0, 48 + 3,
            1, 48 + 2, 112 + 4, 64, 112 + 5, 80, 64,
            2, 48 + 1, 112 + 4, 64, 112 + 5, 80, 80,
            80, 4, 112 + 5, 80, 5, 128);
        // A way back to a meeting is AGAIN, and one lower node alone makes no meeting.
        GraphShaper back = new GraphShaper();
        go(back, 0, 1);
        test(back, 1, 0, 2, 3);
        go(back, 2, 1);
        code("back", back, 0, 16 + 1, 1, 48, 2, 96 + 1, 64, 3, 128, 80, 80);
        // A meeting that is a head, with its block around its loop's outside.
        GraphShaper both = diamond();
        test(both, 3, 2, 3, 4);
        code("both", both, 32 + 3, 0, 48, 1, 112 + 3, 64, 2, 112 + 3, 80, 80,
            16 + 3, 3, 48 + 2, 96 + 3, 64, 4, 128, 80, 80);
    }

    // Promise 16.
    private static void run() {
        GraphShaper g = new GraphShaper();
        does(g, 0, READ, 0, 0);
        does(g, 1, TELL, 0, 0);
        test(g, 0, 0, 2, 1);
        go(g, 1, 0);
        due("README's example straight()", g.straight(), true);
        due("README's example head(1)", g.head(1), 0);
        code("README's example", g, 16, 0, 48, 2, 128, 64, 1, 96, 80, 80);
        due("run to the STOP", g.run(0x321L, 1000), 8);
        due("told last", g.ran(2), 3);
        due("exactly enough steps", g.run(0x321L, 8), 8);
        due("stopped", g.ran(11), 1);
        due("one step too few", g.run(0x321L, 7), 7);
        due("not stopped", g.ran(11), 0);
        due("last node come to", g.ran(10), 0);
        due("an input below 0 is shifted without sign", g.run(-1L, 1000), 34);
        due("sixteen values of it", g.ran(1), 16);
        due("no step", g.run(0x321L, 0), 0);
        due("no node", g.ran(10), -1);
        due("no stop", g.ran(11), 0);
        due("no value", g.ran(1), 0);
        due("variables are 0", g.ran(0), 0);
        g.run(0x5L, 1);
        due("one step", g.ran(0), 5);
        for (int limit : new int[] {-1, 1001, MIN, MAX}) {
            due("limit " + limit, g.run(0L, limit), -1);
        }
        due("a refused run changes nothing", g.ran(0), 5);
        due("the last node stays", g.ran(10), 0);
        due("refused before any run", new GraphShaper().ran(0), -1);
        GraphShaper none = new GraphShaper();
        none.run(0L, 1001);
        due("a refused run is none", none.ran(11), -1);
        due("a crooked graph runs", crooked().run(0L, 1000), 1000);
        GraphShaper endless = new GraphShaper();
        go(endless, 0, 0);
        does(endless, 0, TELL, 0, 0);
        due("the most steps", endless.run(0L, 1000), 1000);
        due("the most values", endless.ran(1), 1000);
    }

    // Promise 17.
    private static void ran() {
        GraphShaper g = new GraphShaper();
        for (int what = -1; what <= 12; what++) {
            due("ran(" + what + ") before a run", g.ran(what), -1);
        }
        go(g, 0, 1);
        does(g, 0, ADD, 1, 1);
        does(g, 1, TELL, 1, 0);
        test(g, 1, 0, 0, 0);
        g.run(0L, 7);
        due("three told", g.ran(1), 3);
        int[] few = {3, 2, 1, -1, -1, -1, -1, -1};
        for (int i = 0; i < 8; i++) {
            due("three told: ran(" + (2 + i) + ")", g.ran(2 + i), few[i]);
        }
        due("variables", g.ran(0), 4 * 16);
        g.run(0L, 26);
        due("thirteen told", g.ran(1), 13);
        for (int i = 0; i < 8; i++) {
            due("thirteen told: ran(" + (2 + i) + ")", g.ran(2 + i), 13 - i);
        }
        due("last node", g.ran(10), 1);
        due("not stopped", g.ran(11), 0);
        for (int what : new int[] {-1, 12, 13, MIN, MAX}) {
            due("ran(" + what + ")", g.ran(what), -1);
        }
        does(g, 0, SET, 1, 9);
        due("end(0, STOP)", g.end(0, STOP, 0, 0, 0), true);
        due("a change leaves the latest run", g.ran(0), 13 * 16);
        g.run(0L, 26);
        due("the latest run alone", g.ran(1), 0);
        due("nothing told", g.ran(2), -1);
        due("stopped", g.ran(11), 1);
        GraphShaper all = new GraphShaper();
        for (int v = 0; v < 4; v++) {
            does(all, v, SET, v, 15 - v);
            go(all, v, v + 1);
        }
        all.run(0L, 1000);
        due("all variables", all.ran(0), 15 + 16 * 14 + 256 * 13 + 4096 * 12);
    }

    // Promise 18.
    private static void oneSuccessor() {
        GraphShaper g = new GraphShaper();
        test(g, 0, 1, 1, 1);
        code("one successor", g, 0, 1, 128);
        does(g, 0, SET, 1, 3);
        due("it goes there", g.run(0L, 5), 2);
        test(g, 1, 0, 1, 1);
        code("one successor, itself", g, 0, 17, 1, 96 + 1, 80);
        test(g, 1, 0, 0, 0);
        code("one successor, back", g, 16, 0, 1, 96, 80);
        GraphShaper half = diamond();
        test(half, 1, 2, 3, 3);
        code("one successor, a meeting", half, 32 + 3, 0, 48, 1, 112 + 3, 64, 2, 112 + 3, 80, 80, 3, 128);
    }

    private static void answersFollowChanges() {
        GraphShaper g = diamond();
        due("words before", g.words(), 12);
        go(g, 0, 1);
        code("changed", g, 0, 1, 3, 128);
        due("number(2) is not seen any more", g.number(2), -1);
        due("chief(3) after", g.chief(3), 1);
        due("tail(0) after", g.tail(0), 1);
        due("edge after", g.set(1, 0), 0);
        due("live before", g.live(1), 0);
        does(g, 3, TELL, 1, 0);
        due("live after", g.live(1), 2);
    }
}
