import java.util.function.Supplier;
import java.util.function.ToIntFunction;

/** Counts the answers at boundaries, each under the promise and the sentence of the document that names it. */
final class Bounds {
    static final int BAD = HuntedScent.BAD, STATE = HuntedScent.STATE, FULL = HuntedScent.FULL, NONE = HuntedScent.NONE;
    static final int MOST = Integer.MAX_VALUE, LEAST = Integer.MIN_VALUE;

    private final Doc doc;
    private final boolean[] promised = new boolean[Doc.PROMISES + 1];
    private String where = "";
    private int sentences = 0;
    private int asked = 0;
    private int wrong = 0;
    private int askedHere = 1;

    Bounds(Doc doc) {
        this.doc = doc;
    }

    /** What is asked from now on holds these words: of the promise, or of the terms as the promise needs them. */
    void says(int promise, String words) {
        close();
        where = "promise " + promise + " '" + words + "'";
        askedHere = 0;
        sentences++;
        promised[promise] = true;
        if (!doc.tell(promise, words)) {
            fail(where + " does not stand in the document");
        }
    }

    private void close() {
        if (askedHere == 0) {
            fail(where + " has no test");
        }
    }

    private void fail(String what) {
        wrong++;
        System.out.println("bounds: " + what);
    }

    void due(String call, long got, long want) {
        asked++;
        askedHere++;
        if (got != want) {
            fail(where + ": " + call + " answered " + got + ", due is " + want);
        }
    }

    void holds(String what, boolean is) {
        due(what, is ? 1 : 0, 1);
    }

    /** A call that is refused on one object; another one, made by the same calls, answers as it does to all that follows. */
    void refused(String call, Supplier<HuntedScent> made, ToIntFunction<HuntedScent> asked, int want) {
        HuntedScent x = made.get();
        due(call, asked.applyAsInt(x), want);
        String unlike = Look.unlike(x, made.get());
        due(call + " changed " + unlike + "which", unlike.length(), 0);
    }

    void done() {
        close();
        for (int promise = 0; promise <= Doc.PROMISES; promise++) {
            if (promise > 0 && !promised[promise]) {
                fail("promise " + promise + " has no test");
            }
            for (String sentence : doc.untold(promise)) {
                fail("no test tells of promise " + promise + ":" + sentence);
            }
        }
        System.out.println("bounds: " + sentences + " sentences, " + asked + " answers, " + wrong + " not as due");
        if (wrong != 0) {
            System.exit(1);
        }
    }

    // ---- numbers that are not as told

    /** Numbers outside low to high, the first beyond on either side ahead of all. */
    static int[] beyond(int low, int high) {
        return new int[] {low - 1, high + 1, LEAST, MOST, LEAST + 1, high + 32, high + 64, high + 1024, low - 1024};
    }

    static int[] noNodes(int nodes) {
        return new int[] {-1, nodes, 11, 31, 32, 33, 64, -2, -3, NONE, -5, -32, LEAST, LEAST + 1, MOST};
    }

    static int[] noBits(int nodes) {
        return new int[] {-1, 1 << nodes, (1 << nodes) + 1, (2 << nodes) - 1, 1 << 10 | 1 << 11, 1 << 30, -2, NONE, LEAST, LEAST + 1, MOST};
    }

    // ---- nets

    /** A net in which all nodes are joined to all. */
    static HuntedScent allJoined(int nodes, String more) {
        HuntedScent x = Check.told("nodes " + nodes + ";" + more);
        for (int a = 0; a < nodes; a++) {
            for (int b = 0; b < a; b++) {
                x.join(a, b, true);
            }
        }
        return x;
    }

    /** Nodes in a row: 0 to 1 to 2 and so on. */
    static HuntedScent row(int nodes, String more) {
        StringBuilder text = new StringBuilder("nodes " + nodes + ";lane");
        for (int i = 0; i < nodes; i++) {
            text.append(' ').append(i);
        }
        return Check.told(text + ";" + more);
    }

    /** All nodes joined to one. */
    static HuntedScent star(int nodes, int middle, String more) {
        HuntedScent x = Check.told("nodes " + nodes + ";" + more);
        for (int i = 0; i < nodes; i++) {
            x.join(i, middle, true);
        }
        return x;
    }
}
