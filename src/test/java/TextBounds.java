/** Boundary cases of the tape and of what is told: promises 2 to 5. */
final class TextBounds {
    private static final long BLANKS = 0x2020202020202020L;

    private final Bounds b;

    private TextBounds(Bounds b) {
        this.b = b;
    }

    static void all(Bounds b) {
        TextBounds t = new TextBounds(b);
        t.feeds();
        t.ends();
        t.texts();
        t.faults();
        t.tellsAll();
    }

    private static HuntedScent fed(int times) {
        HuntedScent x = new HuntedScent();
        for (int i = 0; i < times; i++) {
            x.feed(BLANKS);
        }
        return x;
    }

    private static HuntedScent typed(String text) {
        HuntedScent x = new HuntedScent();
        Check.type(x, text);
        return x;
    }

    private void taken(String text, int lines) {
        HuntedScent x = typed(text);
        b.due("text() of '" + text + "'", x.text(), lines);
        b.due("fault() of '" + text + "'", x.fault(), 0);
    }

    private void feeds() {
        b.says(2, "Eight bytes come behind THE TAPE, the highest first: how many it has.");
        for (int i = 0; i < 8; i++) {
            HuntedScent x = new HuntedScent();
            b.due("feed on nothing", x.feed(BLANKS & ~(255L << 56 - 8 * i) | (long) '.' << 56 - 8 * i), 8);
            b.due("the place of a point", x.text(), -10 - i);
        }
        long[] strange = {0, -1, Long.MIN_VALUE, Long.MAX_VALUE, 1};
        for (long v : strange) {
            HuntedScent x = fed(1);
            b.due("feed(" + v + ")", x.feed(v), 16);
            b.due("is no token from its first byte on", x.text(), -18);
        }
        HuntedScent x = fed(1);
        x.end(5);
        b.due("behind five bytes", x.feed(0x2E2E2E2E2E2E2E2EL), 13);
        b.due("the first point", x.text(), -15);

        b.says(2, "FULL: more than 320.");
        HuntedScent y = new HuntedScent();
        for (int i = 1; i <= 40; i++) {
            b.due("feed " + i, y.feed(BLANKS), 8 * i);
        }
        for (int had = 320; had > 312; had--) {
            y.end(had);
            b.due("feed behind " + had, y.feed(BLANKS), Bounds.FULL);
            b.due("bytes then", y.count(3), had);
        }
        y.end(312);
        b.due("feed behind 312", y.feed(BLANKS), 320);

        b.says(2, "THE TAPE has 320 bytes, places from 0.");
        b.due("a point at place 0", typed(".").text(), -10);
        b.due("a point at place 319", typed(" ".repeat(319) + ".").text(), -329);
        b.due("a line that ends at place 319", typed(" ".repeat(315) + "rest;").text(), 1);
        b.due("no end of a line: place 320", typed(" ".repeat(316) + "rest").text(), -330);
    }

    private void ends() {
        b.says(3, "THE TAPE keeps its first n bytes: how many it had.");
        HuntedScent x = new HuntedScent();
        b.due("of nothing", x.end(0), 0);
        x = typed("rest;...");
        b.due("all are kept", x.end(8), 8);
        b.due("the first five", x.end(5), 8);
        b.due("there are five", x.end(5), 5);
        b.due("which are the first", x.text(), 1);
        x = fed(40);
        b.due("a full tape", x.end(320), 320);
        b.due("one less", x.end(319), 320);
        b.due("one", x.end(1), 319);
        b.due("nothing", x.end(0), 1);
        b.due("it is empty", x.count(3), 0);
        b.due("and stays so", x.end(0), 0);

        b.says(3, "BAD (n above that, too).");
        for (int n : Bounds.beyond(0, 0)) {
            b.due("an empty tape: end(" + n + ")", new HuntedScent().end(n), Bounds.BAD);
        }
        for (int n : Bounds.beyond(0, 5)) {
            b.due("five bytes: end(" + n + ")", typed("rest;").end(n), Bounds.BAD);
        }
        for (int n : Bounds.beyond(0, 320)) {
            b.due("a full tape: end(" + n + ")", fed(40).end(n), Bounds.BAD);
        }
    }

    /** The shortest lines there are, as many as the tape holds. */
    private static String mostLines() {
        StringBuilder text = new StringBuilder("rest;nodes10;start9;");
        for (int i = 0; i < 10; i++) {
            text.append("hole").append(i).append(";water").append(i).append(';');
        }
        for (int i = 0; i < 9 && text.length() <= 312; i++) {
            text.append("lane").append(i).append(' ').append(i + 1).append(';');
        }
        for (int i = 0; i < 8 && text.length() <= 312; i++) {
            text.append("lane").append(i).append(' ').append(i + 2).append(';');
        }
        for (int i = 0; i < 7 && text.length() <= 312; i++) {
            text.append("lane").append(i).append(' ').append(i + 3).append(';');
        }
        return text.toString();
    }

    private void texts() {
        b.says(4, "THE TAPE (empty then, by a FAULT, too) tells all: how many lines;");
        taken("", 0);
        taken(" ", 0);
        taken(" ".repeat(320), 0);
        taken("rest;", 1);
        taken(mostLines(), 44);
        HuntedScent x = typed("rest;start 1;");
        b.due("two lines", x.text(), 2);
        b.due("the tape is empty", x.count(3), 0);
        b.due("an empty one has no lines", x.text(), 0);
        String[] faulty = {".", "foo;", "start 10;", "rest;rest;", "smelt 0 0 0;".repeat(11), "start 5;"};
        for (int i = 0; i < 6; i++) {
            x = typed(faulty[i]);
            x.text();
            b.due("by fault " + (i + 1), x.fault(), i + 1);
            b.due("the tape is empty, too", x.count(3), 0);
            b.due("and has no lines", x.text(), 0);
        }

        b.says(4, "-10 less the place of its FAULT: that which was told stays.");
        for (String text : faulty) {
            x = Check.told("nodes 3;rest;start 2;lane 0 1;water 0;hole 1;smelt 0 2 9;");
            Check.type(x, "nodes 2;lane 1 0;" + text);
            b.holds("'" + text + "' is refused", x.text() <= -10 - 17);
            int[] due = {3, 1, 1, 2, 1, 2};
            for (int what = 0; what < 6; what++) {
                b.due("rule(" + what + ") behind '" + text + "'", x.rule(what), due[what]);
            }
            b.due("smelt behind '" + text + "'", x.count(0), 1);
            b.due("and what", x.sure(1, 0), 2);
        }
    }

    private void faults() {
        b.says(5, "The FAULT of the latest text(); 0.");
        HuntedScent x = new HuntedScent();
        b.due("of a new object", x.fault(), 0);
        x.text();
        b.due("of an empty tape", x.fault(), 0);
        String[] faulty = {".", "foo;", "start 10;", "rest;rest;", "smelt 0 0 0;".repeat(11), "start 5;"};
        for (int i = 0; i < 6; i++) {
            Check.type(x, faulty[i]);
            b.due("not read yet", x.fault(), i);
            x.text();
            b.due("fault " + (i + 1), x.fault(), i + 1);
            b.due("asked again", x.fault(), i + 1);
        }
        x.fox(0);
        x.join(0, 1, true);
        x.read(0, 0, 0, 1);
        x.keep(0);
        x.back(0);
        b.due("by other calls it stays", x.fault(), 6);
        Check.type(x, "rest;");
        x.text();
        b.due("of a text that is taken", x.fault(), 0);
    }

    private static HuntedScent full() {
        HuntedScent x = Check.told("nodes 7;rest;start 3;lane 0 1 2;water 4;hole 5;smelt 0 3 9;");
        x.sheet(3, 2, 3);
        x.lay(3, 1, 1);
        x.lay(3, 2, 9);
        x.read(3, 2, 0, 2);
        x.fox(0);
        x.go(1);
        x.keep(0);
        x.keep(1);
        return x;
    }

    private void told(String text, int nodes, int lanes, int rest, int start, int water, int holes, int smelt) {
        HuntedScent x = full();
        Check.type(x, text);
        b.holds("'" + text + "' is taken", x.text() >= 0);
        int[] due = {nodes, lanes, rest, start, water, holes};
        for (int what = 0; what < 6; what++) {
            b.due("rule(" + what + ") by '" + text + "'", x.rule(what), due[what]);
        }
        b.due("smelt by '" + text + "'", x.count(0), smelt);
    }

    private void tellsAll() {
        int none = Bounds.NONE;
        b.says(4, "A text that is taken tells all, in place of what there was (what it does not tell is as at first);");
        told("", 5, 0, 0, none, 0, 0, 0);
        told("nodes 6;", 6, 0, 0, none, 0, 0, 0);
        told("rest;", 5, 0, 1, none, 0, 0, 0);
        told("start 0;", 5, 0, 0, 0, 0, 0, 0);
        told("lane 3 4 0;", 5, 2, 0, none, 0, 0, 0);
        told("water 0;", 5, 0, 0, none, 1, 0, 0);
        told("hole 4;", 5, 0, 0, none, 0, 16, 0);
        told("smelt 1 1 1;smelt 1 1 1;", 5, 0, 0, none, 0, 0, 2);

        b.says(4, "THE FOX is nowhere, no SMELLS; IMAGES are gone; SHEETS stay.");
        String[] texts = {"", "nodes 7;rest;lane 0 1 2;"};
        for (String text : texts) {
            HuntedScent x = full();
            Check.type(x, text);
            x.text();
            b.due("where", x.now(0), none);
            b.due("moves", x.now(1), 0);
            b.due("go", x.go(0), Bounds.STATE);
            b.due("smells", x.now(3), 0);
            b.due("nodes with a smell", x.count(1), 0);
            b.due("images", x.count(2), 0);
            b.due("back(0)", x.back(0), Bounds.STATE);
            b.due("back(1)", x.back(1), Bounds.STATE);
            b.due("torn", x.torn(), 2);
            b.due("a sheet of three cells", x.lay(3, 3, 0), -12);
            b.due("which can be read", x.read(3, 2, 0, 1), 1);
            b.due("and are as they were", x.sure(0, 0), 1);
        }
    }
}
