/** Counts the answers that are not due, and tells each. */
final class Check {
    private final String name;
    private int asked = 0;
    private int wrong = 0;

    Check(String name) {
        this.name = name;
    }

    void due(String call, long got, long want) {
        asked++;
        if (got != want) {
            wrong++;
            System.out.println(name + ": " + call + " answered " + got + ", due is " + want);
        }
    }

    void holds(String what, boolean is) {
        due(what, is ? 1 : 0, 1);
    }

    void done() {
        System.out.println(name + ": " + (asked - wrong) + " of " + asked + " answers are as due");
        if (wrong != 0 || asked == 0) {
            System.exit(1);
        }
    }

    /** Puts a text on the tape, byte by byte as its signs are numbered. */
    static void type(HuntedScent x, String text) {
        int had = x.count(3);
        for (int i = 0; i < text.length(); i += 8) {
            long v = 0;
            for (int j = i; j < i + 8; j++) {
                v = v << 8 | (j < text.length() ? text.charAt(j) & 255 : 0);
            }
            x.feed(v);
        }
        x.end(had + text.length());
    }

    static HuntedScent told(String text) {
        HuntedScent x = new HuntedScent();
        type(x, text);
        if (x.text() < 0) {
            throw new IllegalStateException("no text: " + text);
        }
        return x;
    }
}
