import java.util.function.Supplier;
import java.util.function.ToIntFunction;

/** What is refused changes nothing: each way in which each call is refused, on an object that has all there is to change. */
final class RefusalBounds {
    private static final String NOTHING = "what is refused changes nothing (but THE TAPE, as told).";
    private static final String ANSWERS = "Answers: BAD -1 (a number is not as told, there is no such NODE, IMAGE, SHEET), "
        + "STATE -2 (as told), FULL -3, NONE -4 (there is none), the first that fits;";
    private static final int BAD = Bounds.BAD, STATE = Bounds.STATE, FULL = Bounds.FULL, NONE = Bounds.NONE;

    private final Bounds b;

    private RefusalBounds(Bounds b) {
        this.b = b;
    }

    static void all(Bounds b) {
        RefusalBounds t = new RefusalBounds(b);
        t.constants();
        t.seen();
        t.tape();
        t.texts();
        t.net();
        t.fox();
        t.smelt();
        t.ways();
        t.doubts();
        t.casts();
        t.chases();
        t.holesAndSeasons();
        t.images();
        t.sheets();
        t.reads();
        t.asked();
    }

    /** The first that fits is what a call answers for which two are wrong. */
    private void constants() {
        b.says(1, ANSWERS);
        b.due("BAD", HuntedScent.BAD, -1);
        b.due("STATE", HuntedScent.STATE, -2);
        b.due("FULL", HuntedScent.FULL, -3);
        b.due("NONE", HuntedScent.NONE, -4);
        b.due("go: BAD ahead of STATE", new HuntedScent().go(5), BAD);
        b.due("smelt: BAD ahead of FULL", withTenSmelt().smelt(6, 0, 0), BAD);
        b.due("flees: BAD ahead of STATE", new HuntedScent().flees(0, 0, 5), BAD);
        b.due("back: BAD ahead of STATE", new HuntedScent().back(2), BAD);
        b.due("sheet: BAD ahead of SIZE", new HuntedScent().sheet(4, 0, -1), BAD);
        b.due("lay: BAD ahead of NULL", new HuntedScent().lay(4, 0, 0), BAD);
        b.due("post: BAD ahead of NONE", new HuntedScent().post(0, 0, 31, 2), BAD);
        b.due("stop: BAD ahead of NONE", new HuntedScent().stop(0, 0, 2), BAD);
        b.due("best: BAD ahead of NONE", new HuntedScent().best(2), BAD);
        b.due("far: BAD ahead of NONE", new HuntedScent().far(0, 5), BAD);
    }

    // ---- objects to refuse calls on

    private static HuntedScent rich() {
        HuntedScent x = Check.told("nodes 6;rest;start 1;lane 0 1 2 3;lane 1 4;water 3;hole 2;smelt 0 1 9;smelt 1 2 9;");
        x.fox(1);
        x.go(0);
        x.go(1);
        x.keep(0);
        x.join(4, 5, true);
        x.start(0);
        x.smelt(2, 1, 8);
        x.fox(2);
        x.go(2);
        x.keep(1);
        x.join(0, 1, false);
        x.start(2);
        x.forget(2);
        x.go(1);
        x.sheet(0, 0, 9);
        x.lay(0, 2, 9);
        x.lay(0, 3, 1);
        x.lay(0, 7, 6);
        x.sheet(1, 1, 3);
        x.lay(1, 0, 3);
        x.sheet(2, 2, 12);
        x.lay(2, 1, 4);
        x.read(1, 0, 0, 1);
        Check.type(x, ".");
        x.text();
        Check.type(x, "rest;start 2;");
        return x;
    }

    private static HuntedScent fullTape(int bytes) {
        HuntedScent x = Check.told("lane 0 1;");
        Check.type(x, "rest;start 2;" + " ".repeat(bytes - 13));
        return x;
    }

    private static HuntedScent withTenSmelt() {
        HuntedScent x = Check.told("lane 0 1;");
        for (int i = 0; i < 10; i++) {
            x.smelt(i % 6, 2, 0);
        }
        return x;
    }

    private static HuntedScent nowhere() {
        HuntedScent x = Check.told("lane 0 1;rest;");
        x.keep(0);
        return x;
    }

    private static HuntedScent joined() {
        HuntedScent x = Bounds.allJoined(6, "rest;");
        x.fox(3);
        return x;
    }

    private void refused(String call, ToIntFunction<HuntedScent> asked, int want) {
        b.refused(call, RefusalBounds::rich, asked, want);
    }

    // ---- what can be seen

    private void changes(String call, ToIntFunction<HuntedScent> asked) {
        HuntedScent x = rich();
        b.holds(call + " is taken", asked.applyAsInt(x) >= 0);
        b.holds(call + " would be seen", !Look.unlike(x, rich()).isEmpty());
    }

    private void seen() {
        b.says(1, NOTHING);
        b.due("two objects that are alike", Look.unlike(rich(), rich()).length(), 0);
        changes("feed", x -> x.feed(0));
        changes("end", x -> x.end(12));
        changes("text", x -> x.text());
        changes("join", x -> x.join(0, 5, true));
        changes("start", x -> x.start(3));
        changes("fox", x -> x.fox(1));
        changes("go", x -> x.go(4));
        changes("smelt", x -> x.smelt(0, 0, 0));
        changes("forget", x -> x.forget(1));
        changes("keep(0)", x -> x.keep(0));
        changes("keep(1)", x -> x.keep(1));
        changes("back", x -> x.back(0));
        changes("sheet", x -> x.sheet(3, 0, 1));
        changes("lay", x -> x.lay(0, 2, 8));
        changes("read", x -> x.read(2, 2, 0, 1));
    }

    // ---- promise by promise

    private void tape() {
        b.says(2, NOTHING);
        for (int bytes = 313; bytes <= 320; bytes++) {
            int had = bytes;
            Supplier<HuntedScent> made = () -> fullTape(had);
            b.refused("feed behind " + had, made, x -> x.feed(0x2E2E2E2E2E2E2E2EL), FULL);
        }
        b.says(3, NOTHING);
        for (int n : Bounds.beyond(0, 13)) {
            refused("end(" + n + ")", x -> x.end(n), BAD);
        }
    }

    private void texts() {
        b.says(4, NOTHING);
        String[] faulty = {"nodes 3;lane 0 2;start 0;hole 1;water 0;smelt 0 0 1;.", "lane 0 2;foo;", "nodes 4;start 10;", "hole 0;rest;rest;",
            "smelt 0 0 0;".repeat(11), "nodes 2;start 3;"};
        for (int i = 0; i < 6; i++) {
            HuntedScent x = rich(), y = rich();
            x.end(0);
            y.end(0);
            Check.type(x, faulty[i]);
            b.holds("'" + faulty[i] + "' is refused", x.text() <= -10);
            b.due("its fault", x.fault(), i + 1);
            String unlike = Look.unlikeBut("fault()", x, y);
            b.due("'" + faulty[i] + "' changed " + unlike + "which", unlike.length(), 0);
        }
    }

    private void net() {
        for (int n : Bounds.noNodes(6)) {
            b.says(8, NOTHING);
            refused("join(" + n + ", 0, true)", x -> x.join(n, 0, true), BAD);
            refused("join(1, " + n + ", false)", x -> x.join(1, n, false), BAD);
            if (n != NONE) {
                b.says(9, NOTHING);
                refused("start(" + n + ")", x -> x.start(n), BAD);
            }
            b.says(10, NOTHING);
            refused("far(0, " + n + ")", x -> x.far(0, n), BAD);
            b.says(7, NOTHING);
            refused("lanes(" + n + ")", x -> x.lanes(n), BAD);
        }
        b.says(8, NOTHING);
        refused("join(1, 1, true)", x -> x.join(1, 1, true), BAD);
        refused("join(1, 1, false)", x -> x.join(1, 1, false), BAD);
        b.says(6, NOTHING);
        refused("rule(6)", x -> x.rule(6), BAD);
        b.says(10, NOTHING);
        refused("far(0, 1)", x -> x.far(0, 1), NONE);
    }

    private void fox() {
        for (int n : Bounds.noNodes(6)) {
            b.says(11, NOTHING);
            refused("fox(" + n + ")", x -> x.fox(n), BAD);
            b.says(12, NOTHING);
            refused("go(" + n + ")", x -> x.go(n), BAD);
            b.says(13, NOTHING);
            refused("smell(" + n + ")", x -> x.smell(n), BAD);
        }
        b.says(12, NOTHING);
        refused("go(0)", x -> x.go(0), NONE);
        refused("go(3)", x -> x.go(3), NONE);
        refused("go(5)", x -> x.go(5), NONE);
        b.refused("nowhere: go(0)", RefusalBounds::nowhere, x -> x.go(0), STATE);
        b.refused("nowhere: fox(5)", RefusalBounds::nowhere, x -> x.fox(5), BAD);
        b.says(14, NOTHING);
        refused("now(-1)", x -> x.now(-1), BAD);
        refused("now(4)", x -> x.now(4), BAD);
        b.refused("nowhere: now(0)", RefusalBounds::nowhere, x -> x.now(0), NONE);
        b.refused("nowhere: now(2)", RefusalBounds::nowhere, x -> x.now(2), NONE);
    }

    private void smelt() {
        b.says(15, NOTHING);
        int[][] wrong = {{-1, 0, 0}, {6, 0, 0}, {0, -1, 0}, {0, 6, 0}, {0, 0, -1}, {0, 0, 19}, {6, 6, 19}};
        for (int[] w : wrong) {
            refused("smelt " + w[0] + " " + w[1] + " " + w[2], x -> x.smelt(w[0], w[1], w[2]), BAD);
            b.refused("the 11th of wrong numbers", RefusalBounds::withTenSmelt, x -> x.smelt(w[0], w[1], w[2]), BAD);
        }
        b.refused("the 11th", RefusalBounds::withTenSmelt, x -> x.smelt(0, 0, 9), FULL);
        b.says(16, NOTHING);
        for (int n : Bounds.beyond(0, 2)) {
            refused("forget(" + n + ")", x -> x.forget(n), BAD);
        }
        b.refused("forget(11)", RefusalBounds::withTenSmelt, x -> x.forget(11), BAD);
    }

    private void ways() {
        for (int n : Bounds.beyond(0, 5)) {
            b.says(17, NOTHING);
            refused("ways(" + n + ")", x -> x.ways(n), BAD);
            b.says(18, NOTHING);
            refused("can(" + n + ", 0)", x -> x.can(n, 0), BAD);
            refused("can(5, " + n + ")", x -> x.can(5, n), BAD);
            b.says(19, NOTHING);
            refused("sure(" + n + ", 0)", x -> x.sure(n, 0), BAD);
            refused("sure(5, " + n + ")", x -> x.sure(5, n), BAD);
            b.says(20, NOTHING);
            refused("way(" + n + ", 0)", x -> x.way(n, 0), BAD);
            refused("way(5, " + n + ")", x -> x.way(5, n), BAD);
        }
        b.says(19, NOTHING);
        refused("sure(5, 0)", x -> x.sure(5, 0), NONE);
        b.says(20, NOTHING);
        refused("way(5, 0)", x -> x.way(5, 0), NONE);
        b.says(21, NOTHING);
        b.refused("cannot()", RefusalBounds::withTenSmelt, x -> x.cannot(), NONE);
    }

    private void doubts() {
        b.says(22, NOTHING);
        refused("doubt(6, 1, 0, 0)", x -> x.doubt(6, 1, 0, 0), BAD);
        refused("doubt(0, 4, 0, 0)", x -> x.doubt(0, 4, 0, 0), BAD);
        refused("doubt(0, 1, 64, 0)", x -> x.doubt(0, 1, 64, 0), BAD);
        refused("doubt(0, 1, 0, 12)", x -> x.doubt(0, 1, 0, 12), BAD);
        b.refused("doubt(2, 1, 0, 10)", () -> Check.told("lane 0 1;"), x -> x.doubt(2, 1, 0, 10), NONE);
        b.says(23, NOTHING);
        refused("post(6, 1, 0, 0)", x -> x.post(6, 1, 0, 0), BAD);
        refused("post(0, 4, 0, 0)", x -> x.post(0, 4, 0, 0), BAD);
        refused("post(0, 1, 64, 0)", x -> x.post(0, 1, 64, 0), BAD);
        refused("post(0, 1, 0, 2)", x -> x.post(0, 1, 0, 2), BAD);
        refused("post(0, 1, 63, 0)", x -> x.post(0, 1, 63, 0), NONE);
    }

    private void casts() {
        b.says(24, NOTHING);
        refused("casts(0, 1, 0)", x -> x.casts(0, 1, 0), BAD);
        refused("casts(6, 1, 0)", x -> x.casts(6, 1, 0), BAD);
        refused("casts(1, 0, 0)", x -> x.casts(1, 0, 0), BAD);
        refused("casts(1, 64, 0)", x -> x.casts(1, 64, 0), BAD);
        refused("casts(1, 1, 9)", x -> x.casts(1, 1, 9), BAD);
        refused("casts(1, 1, 1034)", x -> x.casts(1, 1, 1034), BAD);
        refused("casts(1, 1, 11)", x -> x.casts(1, 1, 11), NONE);
        b.refused("casts(5, 63, 0)", RefusalBounds::joined, x -> x.casts(5, 63, 0), NONE);
        b.says(25, NOTHING);
        b.refused("need()", RefusalBounds::joined, x -> x.need(), NONE);
        b.says(26, NOTHING);
        refused("left(64, 0)", x -> x.left(64, 0), BAD);
        refused("left(0, -1)", x -> x.left(0, -1), BAD);
    }

    private void chases() {
        b.says(27, NOTHING);
        refused("caught(6, 0, 0)", x -> x.caught(6, 0, 0), BAD);
        refused("caught(0, 6, 0)", x -> x.caught(0, 6, 0), BAD);
        refused("caught(0, 1, 6)", x -> x.caught(0, 1, 6), BAD);
        refused("caught(0, 1, 2)", x -> x.caught(0, 1, 2), NONE);
        b.says(28, NOTHING);
        refused("flees(-1, 0, 0)", x -> x.flees(-1, 0, 0), BAD);
        refused("flees(0, -1, 0)", x -> x.flees(0, -1, 0), BAD);
        refused("flees(0, 1, -1)", x -> x.flees(0, 1, -1), BAD);
        refused("flees(1, 1, 2)", x -> x.flees(1, 1, 2), STATE);
        b.says(29, NOTHING);
        refused("best(2)", x -> x.best(2), BAD);
        b.refused("best(0)", () -> Check.told("lane 0 1;"), x -> x.best(0), NONE);
    }

    private void holesAndSeasons() {
        b.says(30, NOTHING);
        refused("open(6, 0)", x -> x.open(6, 0), BAD);
        refused("open(0, 64)", x -> x.open(0, 64), BAD);
        b.says(31, NOTHING);
        refused("stop(6, 0, 0)", x -> x.stop(6, 0, 0), BAD);
        refused("stop(0, 64, 0)", x -> x.stop(0, 64, 0), BAD);
        refused("stop(0, 0, 2)", x -> x.stop(0, 0, 2), BAD);
        refused("stop(2, 0, 0)", x -> x.stop(2, 0, 0), NONE);
        b.says(32, NOTHING);
        refused("season(1, 0, 0)", x -> x.season(1, 0, 0), BAD);
        refused("season(1, 21, 0)", x -> x.season(1, 21, 0), BAD);
        refused("season(1, 1, 2)", x -> x.season(1, 1, 2), BAD);
    }

    private void images() {
        for (int k : Bounds.beyond(0, 1)) {
            b.says(33, NOTHING);
            refused("keep(" + k + ")", x -> x.keep(k), BAD);
            b.says(34, NOTHING);
            refused("back(" + k + ")", x -> x.back(k), BAD);
        }
        b.refused("back(1)", RefusalBounds::nowhere, x -> x.back(1), STATE);
        b.refused("back(0)", RefusalBounds::withTenSmelt, x -> x.back(0), STATE);
        b.says(39, NOTHING);
        refused("count(-1)", x -> x.count(-1), BAD);
        refused("count(5)", x -> x.count(5), BAD);
    }

    private void sheets() {
        b.says(35, NOTHING);
        refused("sheet(-1, 0, 1)", x -> x.sheet(-1, 0, 1), BAD);
        refused("sheet(4, 0, 1)", x -> x.sheet(4, 0, 1), BAD);
        for (int k = 0; k < 4; k++) {
            int sheet = k;
            refused("sheet(" + k + ", -1, 1)", x -> x.sheet(sheet, -1, 1), BAD);
            refused("sheet(" + k + ", 3, 1)", x -> x.sheet(sheet, 3, 1), BAD);
            refused("sheet(" + k + ", 0, 41)", x -> x.sheet(sheet, 0, 41), BAD);
            refused("sheet(" + k + ", 0, -1)", x -> x.sheet(sheet, 0, -1), -14);
        }
        b.says(36, NOTHING);
        refused("lay(-1, 0, 1)", x -> x.lay(-1, 0, 1), BAD);
        refused("lay(4, 0, 1)", x -> x.lay(4, 0, 1), BAD);
        refused("lay(0, -1, 1)", x -> x.lay(0, -1, 1), -12);
        refused("lay(0, 9, 1)", x -> x.lay(0, 9, 1), -12);
        refused("lay(1, 3, 1)", x -> x.lay(1, 3, 1), -12);
        refused("lay(2, 12, 1)", x -> x.lay(2, 12, 1), -12);
        refused("lay(3, 0, 1)", x -> x.lay(3, 0, 1), -11);
    }

    private void reads() {
        b.says(37, NOTHING);
        refused("read(-1, 0, 0, 1)", x -> x.read(-1, 0, 0, 1), BAD);
        refused("read(4, 0, 0, 1)", x -> x.read(4, 0, 0, 1), BAD);
        refused("read(0, -1, 0, 1)", x -> x.read(0, -1, 0, 1), BAD);
        refused("read(0, 3, 0, 1)", x -> x.read(0, 3, 0, 1), BAD);
        refused("read(0, 0, 0, -1)", x -> x.read(0, 0, 0, -1), BAD);
        refused("read(0, 0, 0, 11)", x -> x.read(0, 0, 0, 11), BAD);
        refused("read(0, 0, 0, 3)", x -> x.read(0, 0, 0, 3), -22);
        refused("read(0, 0, 6, 1)", x -> x.read(0, 0, 6, 1), -20);
        b.says(38, NOTHING);
        refused("read(0, 0, 0, 4)", x -> x.read(0, 0, 0, 4), -22);
    }

    /** Calls that only ask change nothing either, though they try lanes, ways and hunts. */
    private void asked() {
        b.says(31, NOTHING);
        refused("stop(0, 0, 1)", x -> x.stop(1, 0, 1), 0);
        b.says(32, NOTHING);
        refused("season(0, 20, 0)", x -> x.season(0, 20, 0) >= 0 ? 1 : 0, 1);
        b.says(21, NOTHING);
        refused("cannot()", x -> x.cannot(), 0);
        b.says(25, NOTHING);
        refused("need()", x -> x.need(), 2);
        b.says(29, NOTHING);
        refused("best(1)", x -> x.best(1), 2);
        b.says(23, NOTHING);
        refused("post(1, 3, 0, 1)", x -> x.post(1, 3, 0, 1) > 0 ? 1 : 0, 1);
    }
}
