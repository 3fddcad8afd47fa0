import java.util.ArrayList;
import java.util.List;

/** What the tests with answers worked out by hand share: comparing, counting what is wrong, and drawing graphs. */
abstract class Checks {
    static final int NOTHING = 0;
    static final int SET = 1;
    static final int ADD = 2;
    static final int COPY = 3;
    static final int TELL = 4;
    static final int READ = 5;
    static final int STOP = 0;
    static final int GO = 1;
    static final int TEST = 2;

    static final int LOOP = 16;
    static final int BLOCK = 32;
    static final int IF = 48;
    static final int ELSE = 64;
    static final int END = 80;
    static final int AGAIN = 96;
    static final int LEAVE = 112;
    static final int STOP_WORD = 128;

    static final int SEVERAL = 16;
    static final int MIN = Integer.MIN_VALUE;
    static final int MAX = Integer.MAX_VALUE;
    static final int[] WRONG_NODES = {-1, 16, 17, 32, -16, MIN, MAX};
    static final int[] WRONG_VARIABLES = {-1, 4, 5, 32, MIN, MAX};

    private static int wrong = 0;
    private static String sentence = "";

    /** The words of the document that are tested from here on; they stand in front of what is wrong. */
    static void says(String words) {
        sentence = "'" + words + "': ";
    }

    static void due(String what, long got, long want) {
        if (got != want) {
            wrong++;
            System.out.println(sentence + what + " answered " + got + ", due is " + want);
        }
    }

    static void due(String what, boolean got, boolean want) {
        due(what, got ? 1 : 0, want ? 1 : 0);
    }

    static void due(String what, List<Integer> got, Integer... want) {
        if (!got.equals(List.of(want))) {
            wrong++;
            System.out.println(sentence + what + " are " + got + ", due are " + List.of(want));
        }
    }

    static void finish() {
        System.out.println(wrong == 0 ? "all answers are as due" : wrong + " answers are not as due");
        if (wrong != 0) {
            System.exit(1);
        }
    }

    // Drawing.

    static void does(GraphShaper g, int node, int kind, int v, int c) {
        due("act(" + node + ", " + kind + ", " + v + ", " + c + ")", g.act(node, kind, v, c), true);
    }

    static void stop(GraphShaper g, int node) {
        due("end(" + node + ", STOP)", g.end(node, STOP, 0, 0, 0), true);
    }

    static void go(GraphShaper g, int node, int x) {
        due("end(" + node + ", GO " + x + ")", g.end(node, GO, 0, x, 0), true);
    }

    static void test(GraphShaper g, int node, int v, int x, int y) {
        due("end(" + node + ", TEST " + v + " " + x + " " + y + ")", g.end(node, TEST, v, x, y), true);
    }

    /** 0 goes to 1, 1 to 2 and so on up to the last, which stops. */
    static GraphShaper chain(int last) {
        GraphShaper g = new GraphShaper();
        for (int n = 0; n < last; n++) {
            go(g, n, n + 1);
        }
        return g;
    }

    /** 0 tests to 1 and 2, both go to 3, which stops. */
    static GraphShaper diamond() {
        GraphShaper g = new GraphShaper();
        test(g, 0, 0, 1, 2);
        go(g, 1, 3);
        go(g, 2, 3);
        return g;
    }

    /** A loop 1 2 3 with a loop 2 inside it, from 0, left from 3 to 4. */
    static GraphShaper loops() {
        GraphShaper g = new GraphShaper();
        go(g, 0, 1);
        go(g, 1, 2);
        test(g, 2, 0, 2, 3);
        test(g, 3, 1, 1, 4);
        return g;
    }

    /** 0 tests to 1 and 2, which go to each other; 2 may stop at 3. */
    static GraphShaper crooked() {
        GraphShaper g = new GraphShaper();
        test(g, 0, 0, 1, 2);
        go(g, 1, 2);
        test(g, 2, 1, 1, 3);
        return g;
    }

    // Comparing many answers.

    static void code(String what, GraphShaper g, int... want) {
        due(what + " words()", g.words(), want.length);
        for (int k = 0; k < want.length; k++) {
            due(what + " word(" + k + ")", g.word(k), want[k]);
        }
        due(what + " word behind the last", g.word(want.length), -1);
        due(what + " word(-1)", g.word(-1), -1);
        due(what + " word(MAX)", g.word(MAX), -1);
        due(what + " word(MIN)", g.word(MIN), -1);
    }

    /** What is answered to every question about a node, in a row. */
    static List<Integer> answersAbout(GraphShaper g, int n) {
        List<Integer> found = new ArrayList<>(List.of(g.number(n), g.chief(n), g.tail(n), g.set(n, 0),
            g.set(n, 1), g.set(n, 2), g.depth(n), g.head(n), g.live(n)));
        for (int v = 0; v < 4; v++) {
            found.add(g.known(n, v));
        }
        return found;
    }

    /** What is answered to every question, in a row: at most 356 calls. */
    static List<Integer> answers(GraphShaper g) {
        List<Integer> found = new ArrayList<>();
        for (int n = 0; n < 16; n++) {
            found.addAll(answersAbout(g, n));
        }
        for (int v = 0; v < 4; v++) {
            found.add(g.merges(v));
        }
        found.add(g.straight() ? 1 : 0);
        int words = g.words();
        found.add(words);
        for (int k = 0; k < words; k++) {
            found.add(g.word(k));
        }
        for (int what = 0; what <= 11; what++) {
            found.add(g.ran(what));
        }
        return found;
    }

    /** For a call that changes nothing: the object answers as a twin does that had no such call. */
    static void twins(String what, GraphShaper g, GraphShaper twin) {
        due(what + ": answers", answers(g), answers(twin).toArray(new Integer[0]));
    }
}
