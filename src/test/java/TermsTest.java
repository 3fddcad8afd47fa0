/**
 * The sentences of the document's 'Terms' that name a boundary case: one test each, with the sentence's words
 * and with answers worked out by hand.
 */
public final class TermsTest extends Checks {
    public static void main(String[] args) {
        variables();
        sums();
        nodes();
        acts();
        copies();
        ends();
        atFirst();
        successors();
        ways();
        seen();
        notSeenAnyMore();
        runsBegin();
        reads();
        actsBeforeEnds();
        steps();
        numbers();
        allNumbers();
        before();
        chiefs();
        behind();
        tails();
        edges();
        rulers();
        heads();
        loopNodes();
        ownSuccessor();
        straightGraphs();
        mergeSets();
        mergeMembers();
        looks();
        replacements();
        entered();
        given();
        oneValue();
        differentSides();
        theLeast();
        manyRounds();
        wordKinds();
        meetings();
        blocks();
        fullestCode();
        goingOn();
        waysInCode();
        finish();
    }

    // Variables, nodes, acts and ends.

    private static void variables() {
        says("VARIABLES 0 .. 3 hold 0 .. 15");
        GraphShaper g = chain(4);
        for (int v = 0; v < 4; v++) {
            does(g, v, SET, v, 15);
            due("known at its SET", g.known(v, v), 0);
            due("15 is a value, not SEVERAL", g.known(v + 1, v), 15);
        }
        due("run", g.run(0L, 1000), 5);
        due("all variables 15", g.ran(0), 65535);
        for (int v = 0; v < 4; v++) {
            does(g, v, SET, v, 0);
        }
        g.run(0L, 1000);
        due("all variables 0", g.ran(0), 0);
        due("variable -1", g.act(0, SET, -1, 0), false);
        due("variable 4", g.act(0, SET, 4, 0), false);
        due("value -1", g.act(0, SET, 0, -1), false);
        due("value 16", g.act(0, SET, 0, 16), false);
    }

    private static void sums() {
        says("sums modulo 16");
        for (int first = 0; first < 16; first++) {
            for (int second = 0; second < 16; second++) {
                GraphShaper g = chain(2);
                int want = first + second < 16 ? first + second : first + second - 16;
                String sum = first + " + " + second;
                does(g, 0, SET, 2, first);
                does(g, 1, ADD, 2, second);
                does(g, 2, TELL, 2, 0);
                due(sum + " known", g.known(2, 2), want);
                g.run(0L, 1000);
                due(sum + " told", g.ran(2), want);
                due(sum + " held, and no other variable touched", g.ran(0), 256 * want);
                test(g, 1, 2, 2, 3);
                g.run(0L, 1000);
                due(sum + " tested", g.ran(10), want == 0 ? 2 : 3);
                due(sum + " tested, x entered", g.known(2, 2), want == 0 ? 0 : -1);
                due(sum + " tested, y entered", g.known(3, 2), want == 0 ? -1 : want);
            }
        }
    }

    private static void nodes() {
        says("NODES 0 .. 15 have each an ACT and an END");
        GraphShaper g = chain(15);
        for (int n = 0; n < 16; n++) {
            does(g, n, ADD, n % 4, 1);
        }
        due("all nodes", g.run(0L, 1000), 16);
        due("all acts", g.ran(0), 4 * (1 + 16 + 256 + 4096));
        for (int n = 0; n < 16; n++) {
            does(g, n, NOTHING, 0, 0);
            g.run(0L, 1000);
            due("all acts but that of " + n, g.ran(0), 4 * (1 + 16 + 256 + 4096) - (1 << (4 * (n % 4))));
            does(g, n, ADD, n % 4, 1);
        }
        for (int n = 0; n < 15; n++) {
            stop(g, n);
            due("all ends but that of " + n, g.run(0L, 1000), n + 1);
            due("the node that stops", g.ran(10), n);
            go(g, n, n + 1);
        }
        for (int node : WRONG_NODES) {
            due("act of node " + node, g.act(node, NOTHING, 0, 0), false);
            due("end of node " + node, g.end(node, STOP, 0, 0, 0), false);
        }
    }

    private static void acts() {
        says("ACTS (kind, v, c): 0 nothing, 1 SET v = c, 2 ADD v = v + c, 3 COPY v = c, 4 TELL v, 5 READ v");
        int[] held = {0x0007, 0x0207, 0x0907, 0x0707, 0x0707, 0x0B07};
        for (int kind = 0; kind <= 5; kind++) {
            GraphShaper g = chain(2);
            does(g, 0, SET, 0, 7);
            if (kind >= 2) {
                does(g, 1, SET, 2, 7);
            }
            does(g, 2, kind, 2, kind == COPY ? 0 : 2);
            g.run(0xBL, 1000);
            due("variables after act " + kind, g.ran(0), held[kind]);
            due("told by act " + kind, g.ran(1), kind == TELL ? 1 : 0);
            due("value told by act " + kind, g.ran(2), kind == TELL ? 7 : -1);
        }
        for (int kind : new int[] {-1, 6, MIN, MAX}) {
            due("act of kind " + kind, new GraphShaper().act(0, kind, 0, 0), false);
        }
    }

    private static void copies() {
        says("3 COPY v = c (c the variable 0 .. 3)");
        for (int v = 0; v < 4; v++) {
            for (int c = 0; c < 4; c++) {
                GraphShaper g = chain(5);
                for (int w = 0; w < 4; w++) {
                    does(g, w, SET, w, 9 + w);
                }
                does(g, 4, COPY, v, c);
                g.run(0L, 1000);
                int held = 9 + 16 * 10 + 256 * 11 + 4096 * 12;
                due("COPY " + v + " = " + c, g.ran(0), held + (c - v) * (1 << (4 * v)));
                due("COPY " + v + " = " + c + " known", g.known(5, v), 9 + c);
                due("COPY " + v + " = " + c + " leaves c", g.known(5, c), 9 + c);
            }
        }
        GraphShaper g = new GraphShaper();
        due("COPY of variable -1", g.act(0, COPY, 0, -1), false);
        due("COPY of variable 4", g.act(0, COPY, 0, 4), false);
    }

    private static void ends() {
        says("ENDS (kind, v, x, y): 0 STOP, 1 GO x, 2 TEST: x if v is 0, else y");
        for (int v = 0; v < 4; v++) {
            for (int value = 0; value < 16; value++) {
                GraphShaper g = new GraphShaper();
                does(g, 0, SET, v, value);
                test(g, 0, v, 14, 15);
                g.run(0L, 1000);
                due("TEST of " + v + " that is " + value, g.ran(10), value == 0 ? 14 : 15);
                test(g, 0, (v + 1) % 4, 14, 15);
                g.run(0L, 1000);
                due("TEST of another variable than " + v, g.ran(10), 14);
            }
        }
        GraphShaper g = new GraphShaper();
        does(g, 0, SET, 0, 1);
        go(g, 0, 7);
        g.run(0L, 1000);
        due("GO x whatever the variables are", g.ran(10), 7);
        stop(g, 0);
        due("STOP", g.run(0L, 1000), 1);
        for (int kind : new int[] {-1, 3, MIN, MAX}) {
            due("end of kind " + kind, g.end(0, kind, 0, 0, 0), false);
        }
    }

    private static void atFirst() {
        says("At first all acts are 0 and all ends STOP");
        for (int n = 1; n < 16; n++) {
            GraphShaper g = new GraphShaper();
            test(g, 0, 0, n, 0);
            due("act of " + n + " looks at nothing", g.live(n), 0);
            due("act of " + n + " changes nothing", g.merges(0) + g.merges(1) + g.merges(2) + g.merges(3), 4);
            code("end of " + n, g, LOOP, 0, IF, n, STOP_WORD, ELSE, AGAIN, END, END);
            due("a run to " + n, g.run(-1L, 1000), 2);
            due("variables", g.ran(0), 0);
            due("told", g.ran(1), 0);
            due("stopped", g.ran(11), 1);
        }
        GraphShaper g = new GraphShaper();
        due("a run of node 0", g.run(-1L, 1000), 1);
        due("variables", g.ran(0), 0);
        due("told", g.ran(1), 0);
        due("stopped", g.ran(11), 1);
    }

    // Ways, and what is seen.

    private static void successors() {
        says("SUCCESSORS of a node are x of GO, x and y of TEST (one if they are the same), in this order");
        GraphShaper g = new GraphShaper();
        test(g, 0, 0, 3, 9);
        due("x is gone through first and left first", g.number(3), 2);
        due("y is left behind it", g.number(9), 1);
        test(g, 0, 0, 9, 3);
        due("turned, x", g.number(9), 2);
        due("turned, y", g.number(3), 1);
        test(g, 0, 0, 3, 3);
        due("one successor", g.number(3), 1);
        due("the other is none", g.number(9), -1);
        due("y of GO is no successor", g.end(0, GO, 0, 9, 3), true);
        due("x of GO", g.number(9), 1);
        due("y of GO", g.number(3), -1);
        due("x of STOP is no successor", g.end(0, STOP, 0, 9, 3), true);
        due("x of STOP", g.number(9), -1);
        due("y of STOP", g.number(3), -1);
        due("STOP in the code", g.word(1), STOP_WORD);
    }

    private static void ways() {
        says("A WAY is a row of one or more nodes");
        GraphShaper g = new GraphShaper();
        due("from node 0 to node 0", g.number(0), 0);
        does(g, 0, TELL, 3, 0);
        due("from a node to itself it is looked at", g.live(0), 8);
        test(g, 0, 0, 1, 2);
        due("from a STOP to itself it is behind itself", g.set(1, 1), 1);
        due("from a predecessor to itself it is in the loop", loops().set(1, 2) & 8, 8);
        go(g, 1, 3);
        go(g, 2, 3);
        due("from a predecessor to itself it is before itself", g.set(1, 0), 8);
    }

    private static GraphShaper busyDiamond() {
        GraphShaper g = diamond();
        does(g, 0, READ, 0, 0);
        does(g, 1, SET, 1, 5);
        does(g, 2, ADD, 2, 1);
        does(g, 3, TELL, 1, 0);
        return g;
    }

    private static void seen() {
        says("A node is SEEN if a way from node 0 leads to it; ways, successors and what is said below are "
            + "those among nodes that are SEEN");
        GraphShaper g = busyDiamond();
        // To the seen nodes from outside: with changes, looks, ways back to 0, and two nodes that go to each other.
        does(g, 4, SET, 0, 3);
        go(g, 4, 3);
        does(g, 5, SET, 3, 1);
        test(g, 5, 1, 1, 4);
        does(g, 6, READ, 2, 0);
        go(g, 6, 0);
        does(g, 7, TELL, 3, 0);
        go(g, 7, 6);
        test(g, 8, 0, 9, 10);
        go(g, 9, 10);
        go(g, 10, 9);
        go(g, 11, 11);
        does(g, 13, ADD, 3, 1);
        test(g, 13, 0, 0, 2);
        twins("what is not seen does not count", g, busyDiamond());
        for (int n = 4; n < 16; n++) {
            for (int answer : answersAbout(g, n)) {
                due("an answer about " + n, answer, -1);
            }
        }
        due("chief(3)", g.chief(3), 0);
        due("edge of 0", g.set(0, 0), 0);
        due("merges(3)", g.merges(3), 0);
        due("straight()", g.straight(), true);
        GraphShaper line = new GraphShaper();
        go(line, 0, 1);
        go(line, 1, 3);
        go(line, 4, 3);
        code("no meeting with a node that is not seen", line, 0, 1, 3, STOP_WORD);
        go(line, 3, 0);
        due("a STOP that is not seen", line.tail(0), -1);
    }

    private static void notSeenAnyMore() {
        says("A node is SEEN if a way from node 0 leads to it");
        GraphShaper g = busyDiamond();
        due("2 is seen", g.number(2), 1);
        due("words", g.words(), 12);
        go(g, 0, 1);
        for (int answer : answersAbout(g, 2)) {
            due("an answer about 2 when it is not seen any more", answer, -1);
        }
        due("chief(3)", g.chief(3), 1);
        due("edge of 1", g.set(1, 0), 0);
        due("live at 0", g.live(0), 0);
        due("merges(1)", g.merges(1), 0);
        code("without 2", g, 0, 1, 3, STOP_WORD);
        go(g, 0, 2);
        due("2 is seen again", g.number(2), 1);
        due("1 is not", g.number(1), -1);
        due("live at 0 again", g.live(0), 2 + 4);
    }

    // Runs.

    private static void runsBegin() {
        says("A RUN begins at node 0 with all variables 0");
        GraphShaper g = chain(4);
        for (int v = 0; v < 4; v++) {
            does(g, v, v == 3 ? READ : ADD, v, 5);
        }
        does(g, 4, TELL, 3, 0);
        for (int time = 0; time < 3; time++) {
            due("run", g.run(0x96L, 1000), 5);
            due("variables, not added to those of the run before", g.ran(0), 0x6555);
            due("the input anew", g.ran(2), 6);
            due("values told in this run alone", g.ran(1), 1);
            due("the one before", g.ran(3), -1);
        }
        due("node 0 first", g.run(0L, 1), 1);
        due("node 0", g.ran(10), 0);
    }

    private static void reads() {
        says("READ makes v the lowest four bits of what is left of the input, which is then shifted by four "
            + "without sign");
        long[] inputs = {0L, -1L, Long.MIN_VALUE, Long.MAX_VALUE, 0x0FEDCBA987654321L, 0xF0000000FL, 16L, -16L};
        for (long input : inputs) {
            GraphShaper g = new GraphShaper();
            does(g, 0, READ, 3, 0);
            go(g, 0, 1);
            does(g, 1, TELL, 3, 0);
            go(g, 1, 0);
            String digits = String.format("%016x", input);
            for (int k = 1; k <= 18; k++) {
                int want = k <= 16 ? Character.digit(digits.charAt(16 - k), 16) : 0;
                g.run(input, 2 * k);
                due("READ number " + k + " of " + digits, g.ran(2), want);
                due("variables after READ number " + k + " of " + digits, g.ran(0), 4096 * want);
            }
        }
        GraphShaper g = chain(2);
        does(g, 0, READ, 0, 0);
        does(g, 2, READ, 1, 0);
        g.run(0x123L, 1000);
        due("an act other than READ shifts nothing", g.ran(0), 0x23);
    }

    private static void actsBeforeEnds() {
        says("the act is done .. then the end says where it goes on, or that it stops");
        GraphShaper g = new GraphShaper();
        test(g, 0, 0, 1, 2);
        g.run(1L, 1000);
        due("TEST of 0", g.ran(10), 1);
        for (int kind : new int[] {SET, ADD, READ}) {
            does(g, 0, kind, 0, 1);
            g.run(1L, 1000);
            due("TEST behind act " + kind, g.ran(10), 2);
            due("known behind act " + kind, g.known(2, 0), kind == READ ? SEVERAL : 1);
        }
        stop(g, 0);
        g.run(7L, 1000);
        due("the act of a STOP", g.ran(0), 7);
        due("it stopped", g.ran(11), 1);
    }

    private static void steps() {
        says("Every node come to takes a step");
        for (int last = 0; last < 16; last++) {
            GraphShaper g = chain(last);
            due("to node " + last + ", which stops", g.run(0L, 1000), last + 1);
            due("that was the last node", g.ran(10), last);
        }
        GraphShaper g = new GraphShaper();
        go(g, 0, 0);
        does(g, 0, ADD, 0, 1);
        due("the same node again", g.run(0L, 15), 15);
        due("its act again", g.ran(0), 15);
    }

    // Numbers.

    private static void numbers() {
        says("at a node, each of its successors in their order, if it was not come to yet, is gone through; "
            + "then the node is left");
        GraphShaper g = new GraphShaper();
        test(g, 0, 0, 1, 2);
        go(g, 1, 3);
        go(g, 2, 4);
        go(g, 3, 5);
        int[] deep = {0, 3, 1, 4, 2, 5};
        for (int n = 0; n < 6; n++) {
            due("deeper first: number(" + n + ")", g.number(n), deep[n]);
        }
        // 2 is come to from 1, which is deeper, though it is a successor of 0.
        GraphShaper both = new GraphShaper();
        test(both, 0, 0, 1, 2);
        test(both, 1, 0, 2, 3);
        go(both, 2, 3);
        for (int n = 0; n < 4; n++) {
            due("come to from the deeper one: number(" + n + ")", both.number(n), n);
        }
        test(both, 0, 0, 2, 1);
        int[] turned = {0, 1, 2, 3};
        for (int n = 0; n < 4; n++) {
            due("come to already: number(" + n + ")", both.number(n), turned[n]);
        }
        test(both, 3, 0, 0, 3);
        for (int n = 0; n < 4; n++) {
            due("a way back and to itself changes no number: number(" + n + ")", both.number(n), turned[n]);
        }
    }

    private static void allNumbers() {
        says("The node left last has number 0, the one before 1, ..");
        GraphShaper g = chain(15);
        for (int n = 0; n < 16; n++) {
            due("all nodes: number(" + n + ")", g.number(n), n);
        }
        // Each node of a tree with two below it: 1 and 2 below 0, 3 and 4 below 1, and so on; 15 below 7.
        GraphShaper tree = new GraphShaper();
        for (int n = 0; n < 7; n++) {
            test(tree, n, 0, 2 * n + 1, 2 * n + 2);
        }
        go(tree, 7, 15);
        int[] want = {0, 8, 1, 12, 9, 5, 2, 14, 13, 11, 10, 7, 6, 4, 3, 15};
        for (int n = 0; n < 16; n++) {
            due("a tree: number(" + n + ")", tree.number(n), want[n]);
        }
        due("a new object: number(0)", new GraphShaper().number(0), 0);
    }

    // Before and behind.

    private static void before() {
        says("A node d is BEFORE n if all ways from node 0 to n have d (also n itself)");
        GraphShaper g = chain(2);
        go(g, 1, 1);
        due("a node before itself is a head", g.set(1, 2), 2);
        test(g, 1, 0, 1, 2);
        due("and is before its successor", g.chief(2), 1);
        due("and has itself at its edge", g.set(1, 0), 2);
        test(g, 0, 0, 1, 2);
        due("one way without it is enough", g.chief(2), 0);
        due("then its successor is at its edge", g.set(1, 0), 2 + 4);
    }

    private static void chiefs() {
        says("the CHIEF of n (not of node 0) is the one before n, other than n, that all others before n, "
            + "but n, are before");
        GraphShaper g = chain(15);
        for (int n = 1; n < 16; n++) {
            due("the nearest one: chief(" + n + ")", g.chief(n), n - 1);
        }
        due("chief(0)", g.chief(0), -1);
        go(g, 15, 0);
        due("chief(0) with a predecessor", g.chief(0), -1);
        go(g, 0, 0);
        due("chief(0), its own successor", g.chief(0), -1);
        GraphShaper self = chain(1);
        go(self, 1, 1);
        due("not itself: chief(1)", self.chief(1), 0);
        due("of a node that is not seen", self.chief(2), -1);
    }

    private static void behind() {
        says("A node d is BEHIND n if there are ways from n to a STOP and all of them have d");
        GraphShaper g = new GraphShaper();
        test(g, 0, 0, 1, 2);
        test(g, 1, 1, 0, 2);
        test(g, 2, 2, 2, 1);
        for (int n = 0; n < 3; n++) {
            due("no STOP that can be come to: tail(" + n + ")", g.tail(n), -1);
            due("no STOP that can be come to: rulers of " + n, g.set(n, 1), 0);
        }
        stop(g, 2);
        due("with a STOP: tail(0)", g.tail(0), 2);
        due("with a STOP: rulers of 0", g.set(0, 1), 2);
        due("with a STOP: rulers of 1", g.set(1, 1), 1);
        due("with a STOP: rulers of 2", g.set(2, 1), 0);
        GraphShaper side = new GraphShaper();
        test(side, 0, 0, 1, 2);
        go(side, 2, 2);
        due("a way that never comes to a STOP does not count: tail(0)", side.tail(0), 1);
        due("and has nothing behind it: tail(2)", side.tail(2), -1);
        due("not even itself: rulers of 2", side.set(2, 1), 0);
        due("behind both: rulers of 1", side.set(1, 1), 0);
        test(side, 2, 0, 2, 1);
        due("the same with a STOP: rulers of 2", side.set(2, 1), 1 + 4);
        due("the same with a STOP: tail(2)", side.tail(2), 1);
    }

    private static void tails() {
        says("the TAIL of n is the one behind n, other than n, that all others behind n, but n, are behind; "
            + "perhaps there is none");
        GraphShaper g = chain(15);
        for (int n = 0; n < 15; n++) {
            due("the nearest one: tail(" + n + ")", g.tail(n), n + 1);
        }
        due("of a STOP", g.tail(15), -1);
        due("of a STOP that is node 0", new GraphShaper().tail(0), -1);
        GraphShaper two = new GraphShaper();
        test(two, 0, 0, 1, 2);
        due("two STOPs", two.tail(0), -1);
        go(two, 1, 2);
        due("one STOP", two.tail(0), 2);
        test(two, 1, 0, 0, 2);
        due("back to itself", two.tail(0), 2);
        go(two, 2, 0);
        due("no STOP", two.tail(0), -1);
    }

    private static void edges() {
        says("The EDGE of a node m are all nodes n such that m is before some predecessor of n, but not before "
            + "n, unless m is n");
        GraphShaper g = new GraphShaper();
        due("no predecessor at all", g.set(0, 0), 0);
        go(g, 0, 1);
        test(g, 1, 0, 0, 1);
        due("0 is before all, but is itself", g.set(0, 0), 1);
        due("0 and itself", g.set(1, 0), 1 + 2);
        test(g, 1, 0, 0, 2);
        due("not itself if it is not before a predecessor of its own", chain(2).set(1, 0), 0);
        due("itself by a longer way around", g.set(1, 0), 1);
        due("2 before no predecessor", g.set(2, 0), 0);
        // 5 has the predecessors 3 and 4: 1 is before both and before 5, 3 before one and not before 5.
        GraphShaper some = chain(1);
        test(some, 1, 0, 3, 4);
        go(some, 3, 5);
        go(some, 4, 5);
        due("before all predecessors and before it", some.set(1, 0), 0);
        due("before some predecessor, but not before it", some.set(3, 0), 32);
        due("the other one", some.set(4, 0), 32);
        due("not seen", some.set(2, 0), -1);
    }

    private static void rulers() {
        says("The RULERS of n are all nodes m such that n is behind some successor of m, but not behind m, "
            + "unless m is n");
        GraphShaper g = new GraphShaper();
        due("no successor at all", g.set(0, 1), 0);
        test(g, 0, 0, 1, 2);
        due("behind some successor, but not behind it", g.set(1, 1), 1);
        due("the other one", g.set(2, 1), 1);
        due("of 0", g.set(0, 1), 0);
        go(g, 1, 2);
        due("behind all successors and behind it", g.set(2, 1), 0);
        test(g, 1, 1, 1, 2);
        due("itself too", g.set(1, 1), 1 + 2);
        due("still none", g.set(2, 1), 0);
        GraphShaper around = chain(2);
        test(around, 2, 0, 0, 3);
        for (int n = 0; n < 3; n++) {
            due("the TEST around: rulers of " + n, around.set(n, 1), 4);
        }
        due("the TEST around: rulers of 3", around.set(3, 1), 0);
    }

    // Loops.

    private static void heads() {
        says("A HEAD is a node h that is before one of its predecessors");
        GraphShaper g = chain(3);
        for (int n = 0; n < 4; n++) {
            due("no head: set(" + n + ", 2)", g.set(n, 2), 0);
            due("no head: depth(" + n + ")", g.depth(n), 0);
            due("no head: head(" + n + ")", g.head(n), -1);
        }
        go(g, 3, 0);
        due("node 0 is a head", g.set(0, 2), 15);
        go(g, 3, 3);
        due("the last is a head", g.set(3, 2), 8);
        due("node 0 is none any more", g.set(0, 2), 0);
        GraphShaper two = crooked();
        due("before none of its predecessors: 1", two.set(1, 2), 0);
        due("before none of its predecessors: 2", two.set(2, 2), 0);
        test(two, 3, 0, 2, 4);
        due("before one of its three predecessors", two.set(2, 2), 4 + 8);
    }

    private static void loopNodes() {
        says("its LOOP: h, and all nodes from which a way leads to such a predecessor on which h is not");
        GraphShaper g = new GraphShaper();
        test(g, 0, 0, 1, 3);
        go(g, 1, 3);
        test(g, 3, 0, 4, 5);
        test(g, 4, 0, 3, 6);
        due("neither its other predecessors nor what leaves it", g.set(3, 2), 8 + 16);
        go(g, 5, 3);
        due("a second way back", g.set(3, 2), 8 + 16 + 32);
        go(g, 6, 4);
        due("the loop inside", g.set(4, 2), 16 + 64);
        due("is in the loop around it", g.set(3, 2), 8 + 16 + 32 + 64);
        due("6 is in two", g.depth(6), 2);
        due("5 is in one", g.depth(5), 1);
        due("0 is in none", g.depth(0), 0);
    }

    private static void ownSuccessor() {
        says("a node that is its own successor");
        GraphShaper g = new GraphShaper();
        go(g, 0, 0);
        due("GO: answers about 0", answersAbout(g, 0), 0, -1, -1, 1, 0, 1, 1, 0, 0, 0, 0, 0, 0);
        due("GO: straight()", g.straight(), true);
        due("GO: merges(0)", g.merges(0), 1);
        code("GO", g, LOOP, 0, AGAIN, END);
        test(g, 0, 3, 0, 1);
        due("TEST: answers about 0", answersAbout(g, 0), 0, -1, 1, 1, 1, 1, 1, 0, 8, 0, 0, 0, 0);
        due("TEST: straight()", g.straight(), true);
        due("TEST: 1 is not entered", g.known(1, 3), -1);
        code("TEST", g, LOOP, 0, IF + 3, AGAIN, ELSE, 1, STOP_WORD, END, END);
    }

    private static void straightGraphs() {
        says("The graph is STRAIGHT if for every n and successor s of n with a number not above that of n, s "
            + "is before n");
        due("no successor", new GraphShaper().straight(), true);
        due("no number that is not above", chain(15).straight(), true);
        GraphShaper g = chain(2);
        go(g, 2, 2);
        due("the same number", g.straight(), true);
        go(g, 2, 1);
        due("a lower number, before it", g.straight(), true);
        test(g, 0, 0, 1, 2);
        due("a lower number, not before it", g.straight(), false);
        due("numbers of 1 and 2", g.number(1) * 16 + g.number(2), 18);
        test(g, 0, 0, 2, 1);
        due("the other one first", g.straight(), false);
        due("numbers of 1 and 2, turned", g.number(1) * 16 + g.number(2), 33);
        test(g, 2, 0, 3, 0);
        due("back to node 0", g.straight(), true);
    }

    // Merges.

    private static void mergeSets() {
        says("MERGES of v: the least set that has the edges of node 0, of all nodes whose act changes v (1, 2, "
            + "3 and 5)");
        boolean[] changes = {false, true, true, true, false, true};
        for (int kind = 0; kind <= 5; kind++) {
            for (int v = 0; v < 4; v++) {
                GraphShaper g = diamond();
                does(g, 2, kind, v, kind == COPY ? v : 0);
                for (int w = 0; w < 4; w++) {
                    int want = changes[kind] && v == w ? 8 : 0;
                    due("act " + kind + " of " + v + ": merges(" + w + ")", g.merges(w), want);
                }
            }
        }
        GraphShaper back = diamond();
        go(back, 3, 0);
        for (int v = 0; v < 4; v++) {
            due("the edge of node 0 without a change: merges(" + v + ")", back.merges(v), 1);
        }
        does(back, 2, SET, 1, 0);
        due("and with one", back.merges(1), 1 + 8);
        GraphShaper copied = diamond();
        does(copied, 1, COPY, 0, 3);
        due("what is copied is not changed", copied.merges(3), 0);
        // Two diamonds, one behind the other, with a change in each: neither edge brings the other.
        GraphShaper two = diamond();
        test(two, 3, 0, 4, 5);
        go(two, 4, 6);
        go(two, 5, 6);
        does(two, 1, READ, 0, 0);
        due("the first alone", two.merges(0), 8);
        does(two, 5, ADD, 0, 1);
        due("all nodes whose act changes it", two.merges(0), 8 + 64);
    }

    private static void mergeMembers() {
        says("and of all its members");
        // The edges go up: that of 1 is 3, of 3 is 6, of 6 is 9; without the first no other comes.
        GraphShaper g = new GraphShaper();
        test(g, 0, 0, 11, 10);
        test(g, 11, 0, 12, 8);
        test(g, 12, 0, 1, 2);
        go(g, 1, 3);
        go(g, 2, 3);
        go(g, 3, 6);
        go(g, 8, 6);
        go(g, 6, 9);
        go(g, 10, 9);
        due("the least set is empty", g.merges(2), 0);
        does(g, 1, SET, 2, 0);
        due("three members, one by the other", g.merges(2), 8 + 64 + 512);
        does(g, 1, NOTHING, 0, 0);
        does(g, 8, SET, 2, 0);
        due("two of them", g.merges(2), 64 + 512);
        does(g, 8, NOTHING, 0, 0);
        does(g, 10, SET, 2, 0);
        due("the last", g.merges(2), 512);
    }

    // Live.

    private static void looks() {
        says("v is LIVE at n if there is a way from n on which it is looked at (by 2, 3 as c, 4 or TEST)");
        int[] looked = {0, 0, 2, 8, 2, 0};
        for (int kind = 0; kind <= 5; kind++) {
            GraphShaper g = chain(2);
            does(g, 2, kind, 1, 3);
            for (int n = 0; n < 3; n++) {
                due("act " + kind + ": live(" + n + ")", g.live(n), looked[kind]);
            }
        }
        GraphShaper g = chain(1);
        for (int v = 0; v < 4; v++) {
            test(g, 1, v, 2, 3);
            due("TEST of " + v, g.live(0), 1 << v);
            test(g, 1, v, 2, 2);
            due("TEST of " + v + " with x and y the same", g.live(0), 1 << v);
            test(g, 1, v, 1, 1);
            due("TEST of " + v + " with itself alone", g.live(0), 1 << v);
        }
        go(g, 1, 2);
        due("GO looks at nothing", g.live(0), 0);
        test(g, 0, 0, 1, 2);
        does(g, 0, TELL, 1, 0);
        does(g, 1, TELL, 2, 0);
        does(g, 2, TELL, 3, 0);
        due("all variables", g.live(0), 15);
        stop(g, 1);
        due("behind a STOP there is no way", g.live(1), 4);
        go(g, 1, 0);
        due("by a way through node 0", g.live(1), 15);
        GraphShaper longest = chain(15);
        does(longest, 15, TELL, 2, 0);
        for (int n = 0; n < 16; n++) {
            due("by the longest way: live(" + n + ")", longest.live(n), 4);
        }
    }

    private static void replacements() {
        says("and by no act of a node before that on the way (nor of that node, if the TEST looks at it) "
            + "replaced (by 1, 3 or 5)");
        boolean[] replaces = {false, true, false, true, false, true};
        for (int kind = 0; kind <= 5; kind++) {
            GraphShaper g = chain(3);
            does(g, 1, kind, 2, 0);
            does(g, 3, TELL, 2, 0);
            int own = kind == COPY ? 1 : kind == ADD || kind == TELL ? 4 : 0;
            int through = replaces[kind] ? 0 : 4;
            due("act " + kind + " before: live(0)", g.live(0), own | through);
            due("act " + kind + " behind: live(2)", g.live(2), 4);
            GraphShaper same = chain(1);
            does(same, 1, kind, 2, 0);
            test(same, 1, 2, 2, 3);
            due("act " + kind + " of the node of the TEST", same.live(0), own | through);
        }
        GraphShaper g = chain(2);
        does(g, 1, COPY, 2, 2);
        does(g, 2, TELL, 2, 0);
        due("a node that looks at what it replaces", g.live(0), 4);
        does(g, 1, SET, 1, 0);
        due("another variable is replaced", g.live(0), 4);
        GraphShaper two = diamond();
        does(two, 1, SET, 1, 0);
        does(two, 3, TELL, 1, 0);
        due("replaced on one way only", two.live(0), 1 + 2);
        does(two, 2, READ, 1, 0);
        due("replaced on both", two.live(0), 1);
        GraphShaper around = loops();
        does(around, 2, TELL, 2, 0);
        does(around, 1, SET, 2, 0);
        due("replaced on the way around", around.live(3), 1 + 2);
        due("looked at before it is replaced", around.live(2), 1 + 2 + 4);
    }

    // Known.

    private static void entered() {
        says("KNOWN: node 0 is ENTERED, with all variables 0");
        GraphShaper g = new GraphShaper();
        for (int v = 0; v < 4; v++) {
            due("known(0, " + v + ")", g.known(0, v), 0);
            does(g, 0, SET, v, 9);
            due("known(0, " + v + ") is before the act", g.known(0, v), 0);
        }
        go(g, 0, 1);
        due("the last act", g.known(1, 3), 9);
        go(g, 1, 0);
        due("0 at first and 9 from 1", g.known(0, 3), SEVERAL);
        due("0 at first and from 1", g.known(0, 2), 0);
        due("always 9", g.known(1, 3), 9);
    }

    private static void given() {
        says("A node that is entered gives what its act makes of the variables (of a READ: SEVERAL; of "
            + "SEVERAL: SEVERAL) to its successors, which are entered");
        GraphShaper g = chain(15);
        does(g, 0, SET, 0, 5);
        does(g, 1, ADD, 0, 12);
        does(g, 2, COPY, 1, 0);
        does(g, 3, TELL, 0, 0);
        does(g, 4, READ, 0, 0);
        does(g, 5, ADD, 0, 0);
        does(g, 6, COPY, 3, 0);
        does(g, 7, ADD, 3, 15);
        does(g, 8, TELL, 3, 0);
        does(g, 9, COPY, 0, 1);
        does(g, 10, SET, 3, 0);
        int[] first = {0, 5, 1, 1, 1, 16, 16, 16, 16, 16, 1, 1, 1, 1, 1, 1};
        int[] second = {0, 0, 0, 1, 1, 1, 1, 1, 1, 1, 1, 1, 1, 1, 1, 1};
        int[] fourth = {0, 0, 0, 0, 0, 0, 0, 16, 16, 16, 16, 0, 0, 0, 0, 0};
        for (int n = 0; n < 16; n++) {
            due("known(" + n + ", 0)", g.known(n, 0), first[n]);
            due("known(" + n + ", 1)", g.known(n, 1), second[n]);
            due("known(" + n + ", 2)", g.known(n, 2), 0);
            due("known(" + n + ", 3)", g.known(n, 3), fourth[n]);
        }
        stop(g, 3);
        due("a STOP gives to none", g.known(4, 0), -1);
    }

    private static void oneValue() {
        says("to one only, if the TEST looks at one value");
        for (int value = 0; value <= 16; value++) {
            GraphShaper g = new GraphShaper();
            does(g, 0, value == 16 ? READ : SET, 1, value);
            test(g, 0, 1, 2, 3);
            due(value + ": x", g.known(2, 1), value == 0 || value == 16 ? value : -1);
            due(value + ": y", g.known(3, 1), value == 0 ? -1 : value);
            due(value + ": x is seen all the same", g.number(2), 2);
            due(value + ": y is seen all the same", g.number(3), 1);
            due(value + ": live all the same", g.live(2), 0);
            test(g, 0, 1, 3, 3);
            due(value + ": x and y the same", g.known(3, 1), value);
            test(g, 0, 0, 2, 3);
            due(value + ": TEST of another variable, x", g.known(2, 1), value);
            due(value + ": TEST of another variable, y", g.known(3, 1), -1);
        }
    }

    private static void differentSides() {
        says("A node that gets different values of a variable from different sides, or SEVERAL, has SEVERAL");
        GraphShaper g = diamond();
        does(g, 0, READ, 0, 0);
        for (int left = 0; left < 16; left++) {
            does(g, 1, SET, 1, left);
            does(g, 2, SET, 1, 15);
            due(left + " and 15", g.known(3, 1), left == 15 ? 15 : SEVERAL);
            does(g, 2, SET, 1, 0);
            due(left + " and 0", g.known(3, 1), left == 0 ? 0 : SEVERAL);
        }
        does(g, 2, READ, 1, 0);
        due("15 and SEVERAL", g.known(3, 1), SEVERAL);
        does(g, 1, READ, 1, 0);
        due("SEVERAL and SEVERAL", g.known(3, 1), SEVERAL);
        does(g, 2, NOTHING, 0, 0);
        due("SEVERAL and 0", g.known(3, 1), SEVERAL);
        go(g, 0, 1);
        due("SEVERAL from one side", g.known(3, 1), SEVERAL);
        does(g, 0, NOTHING, 0, 0);
        test(g, 0, 0, 2, 1);
        due("a side that is not entered gives nothing", g.known(3, 1), 0);
        due("it is not entered", g.known(1, 0), -1);
    }

    private static void theLeast() {
        says("The least that fulfils that");
        GraphShaper g = chain(1);
        test(g, 1, 0, 2, 3);
        go(g, 2, 1);
        due("y is never entered", g.known(3, 0), -1);
        due("around the loop 0 stays", g.known(1, 0), 0);
        does(g, 2, SET, 0, 0);
        due("0 again is 0", g.known(1, 0), 0);
        due("y is still not entered", g.known(3, 0), -1);
        does(g, 2, ADD, 0, 1);
        due("around the loop it changes", g.known(1, 0), SEVERAL);
        due("and y is entered with it", g.known(3, 0), SEVERAL);
        due("and x goes on with it", g.known(2, 0), SEVERAL);
        due("what does not change stays", g.known(3, 1), 0);
        does(g, 2, COPY, 1, 1);
        due("a loop that copies a variable to itself", g.known(1, 1), 0);
    }

    private static void manyRounds() {
        says("The least that fulfils that");
        // A ring against the order of the names, and around it each variable learns of the one before only once.
        GraphShaper g = new GraphShaper();
        go(g, 0, 15);
        for (int n = 15; n > 0; n--) {
            go(g, n, n - 1);
        }
        does(g, 15, COPY, 3, 2);
        does(g, 14, COPY, 2, 1);
        does(g, 13, COPY, 1, 0);
        does(g, 12, ADD, 0, 1);
        for (int n = 0; n < 16; n++) {
            for (int v = 0; v < 4; v++) {
                due("known(" + n + ", " + v + ")", g.known(n, v), SEVERAL);
            }
        }
        test(g, 0, 3, 15, 0);
        due("0 goes on with itself too", g.known(0, 3), SEVERAL);
        does(g, 12, ADD, 0, 0);
        due("nothing changes around the ring", g.known(15, 3), 0);
    }

    // The code.

    private static void wordKinds() {
        says("WORDS: 0 NODE n, 1 LOOP n, 2 BLOCK n, 3 IF v, 4 ELSE, 5 END, 6 AGAIN n, 7 LEAVE n, 8 STOP (kind * "
            + "16 + what stands behind it, or 0)");
        GraphShaper g = new GraphShaper();
        go(g, 0, 15);
        test(g, 15, 3, 14, 13);
        go(g, 14, 12);
        go(g, 13, 12);
        test(g, 12, 2, 15, 11);
        code("all kinds", g, 0, 31, 44, 15, 51, 14, 124, 64, 13, 124, 80, 80, 12, 50, 111, 64, 11, 128, 80, 80);
        code("the least code", new GraphShaper(), 0, 128);
    }

    private static void meetings() {
        says("A node is a MEETING if more than one node with a lower number has it as a successor");
        GraphShaper g = chain(2);
        test(g, 1, 0, 2, 2);
        code("one node, twice", g, 0, 1, 2, STOP_WORD);
        test(g, 1, 0, 2, 1);
        code("one lower node and itself", g, 0, LOOP + 1, 1, IF, 2, STOP_WORD, ELSE, AGAIN + 1, END, END);
        go(g, 1, 2);
        test(g, 2, 0, 1, 3);
        code("one lower node and a higher one", g, 0, LOOP + 1, 1, 2, IF, AGAIN + 1, ELSE, 3, STOP_WORD, END, END);
        GraphShaper zero = new GraphShaper();
        test(zero, 0, 0, 1, 2);
        go(zero, 1, 0);
        go(zero, 2, 0);
        code("two higher nodes", zero, LOOP, 0, IF, 1, AGAIN, ELSE, 2, AGAIN, END, END);
        code("two lower nodes", diamond(), BLOCK + 3, 0, IF, 1, LEAVE + 3, ELSE, 2, LEAVE + 3, END,
            END, 3, STOP_WORD);
        GraphShaper direct = new GraphShaper();
        test(direct, 0, 1, 1, 2);
        go(direct, 1, 2);
        code("two lower nodes, one before the other", direct, BLOCK + 2, 0, IF + 1, 1, LEAVE + 2, ELSE,
            LEAVE + 2, END, END, 2, STOP_WORD);
    }

    private static void blocks() {
        says("of the meetings whose chief is n a BLOCK each, the one with the greatest number first; NODE n; its "
            + "going on; and then, the one with the least number first, END and the code of each");
        // The names are against the numbers: 9 has number 3, 5 number 4 and 2 number 5, and 0 is the chief of all.
        GraphShaper g = new GraphShaper();
        test(g, 0, 0, 7, 8);
        test(g, 7, 1, 9, 5);
        test(g, 8, 2, 9, 2);
        go(g, 9, 5);
        go(g, 5, 2);
        due("number(9)", g.number(9), 3);
        due("number(5)", g.number(5), 4);
        due("number(2)", g.number(2), 5);
        code("three blocks", g, BLOCK + 2, BLOCK + 5, BLOCK + 9, 0, IF,
            7, IF + 1, LEAVE + 9, ELSE, LEAVE + 5, END, ELSE,
            8, IF + 2, LEAVE + 9, ELSE, LEAVE + 2, END, END,
            END, 9, LEAVE + 5, END, 5, LEAVE + 2, END, 2, STOP_WORD);
        says("The code of a node n: if it is a head, LOOP n, what follows, END");
        test(g, 2, 3, 0, 1);
        code("three blocks in a loop", g, LOOP, BLOCK + 2, BLOCK + 5, BLOCK + 9, 0, IF,
            7, IF + 1, LEAVE + 9, ELSE, LEAVE + 5, END, ELSE,
            8, IF + 2, LEAVE + 9, ELSE, LEAVE + 2, END, END,
            END, 9, LEAVE + 5, END, 5, LEAVE + 2, END, 2, IF + 3, AGAIN, ELSE, 1, STOP_WORD, END, END);
        // A block belongs to the chief, not to node 0 or to a predecessor.
        GraphShaper inner = new GraphShaper();
        go(inner, 0, 6);
        test(inner, 6, 0, 1, 2);
        go(inner, 1, 3);
        go(inner, 2, 3);
        code("a block inside", inner, 0, BLOCK + 3, 6, IF, 1, LEAVE + 3, ELSE, 2, LEAVE + 3, END,
            END, 3, STOP_WORD);
    }

    /** Every node goes to the next two, the last ones back: no graph has a longer code. */
    private static void fullestCode() {
        says("CODE (for STRAIGHT graphs) is a row of WORDS");
        GraphShaper g = new GraphShaper();
        for (int n = 0; n < 14; n++) {
            test(g, n, 3, n + 1, n + 2);
        }
        test(g, 14, 3, 15, 14);
        test(g, 15, 3, 15, 0);
        int[] want = new int[129];
        int k = 0;
        want[k++] = LOOP;
        for (int m = 15; m >= 2; m--) {
            want[k++] = BLOCK + m;
        }
        for (int word : new int[] {0, IF + 3, 1, IF + 3, LEAVE + 2, ELSE, LEAVE + 3, END, ELSE, LEAVE + 2, END}) {
            want[k++] = word;
        }
        for (int m = 2; m <= 13; m++) {
            for (int word : new int[] {END, m, IF + 3, LEAVE + m + 1, ELSE, LEAVE + m + 2, END}) {
                want[k++] = word;
            }
        }
        for (int word : new int[] {END, LOOP + 14, 14, IF + 3, LEAVE + 15, ELSE, AGAIN + 14, END, END,
                END, LOOP + 15, 15, IF + 3, AGAIN + 15, ELSE, AGAIN, END, END, END}) {
            want[k++] = word;
        }
        due("words counted by hand", k, 129);
        code("the fullest code", g, want);
    }

    private static void goingOn() {
        says("Going on: STOP; or for GO the way to x; or for TEST (with two successors) IF v, the way to x, ELSE, "
            + "the way to y, END");
        GraphShaper g = new GraphShaper();
        code("STOP", g, 0, STOP_WORD);
        go(g, 0, 1);
        code("GO", g, 0, 1, STOP_WORD);
        for (int v = 0; v < 4; v++) {
            test(g, 0, v, 1, 2);
            code("TEST of " + v, g, 0, IF + v, 1, STOP_WORD, ELSE, 2, STOP_WORD, END);
            test(g, 0, v, 2, 1);
            code("TEST of " + v + ", turned", g, 0, IF + v, 2, STOP_WORD, ELSE, 1, STOP_WORD, END);
            test(g, 0, v, 1, 1);
            code("TEST of " + v + " with one successor", g, 0, 1, STOP_WORD);
        }
    }

    private static void waysInCode() {
        says("The way to s is AGAIN s if its number is not above n's; else LEAVE s if it is a meeting, else the "
            + "code of s");
        // 3 is a meeting and a head: from 1 and 2 it is left for, from itself and from 4 it is gone on with again.
        GraphShaper g = diamond();
        test(g, 3, 1, 3, 4);
        test(g, 4, 2, 3, 0);
        code("a meeting that is a head", g, LOOP, BLOCK + 3, 0, IF, 1, LEAVE + 3, ELSE, 2, LEAVE + 3, END, END,
            LOOP + 3, 3, IF + 1, AGAIN + 3, ELSE, 4, IF + 2, AGAIN + 3, ELSE, AGAIN, END, END, END, END);
        // By way of node 15, whose number is lower than that of 1, though its name is higher.
        GraphShaper named = new GraphShaper();
        test(named, 0, 0, 1, 15);
        test(named, 15, 1, 1, 0);
        code("numbers, not names", named, LOOP, BLOCK + 1, 0, IF, LEAVE + 1, ELSE, 15, IF + 1, LEAVE + 1, ELSE,
            AGAIN, END, END, END, 1, STOP_WORD, END);
    }
}
