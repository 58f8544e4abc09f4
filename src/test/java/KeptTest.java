/** Promises 33 to 39: keep, back, sheet, lay, read, torn, count. */
public final class KeptTest {
    private static final Check CHECK = new Check("kept");
    private static final int NONE = HuntedScent.NONE, BAD = HuntedScent.BAD, STATE = HuntedScent.STATE;

    public static void main(String[] args) {
        images();
        sheets();
        narrowCells();
        reads();
        refusedReads();
        faults();
        counts();
        CHECK.done();
    }

    private static void images() {
        HuntedScent x = Check.told("lane 0 1 2;start 2;smelt 0 2 9;rest;");
        CHECK.due("back(0)", x.back(0), STATE);
        CHECK.due("keep(2)", x.keep(2), BAD);
        CHECK.due("keep(-1)", x.keep(-1), BAD);
        CHECK.due("back(2)", x.back(2), BAD);
        CHECK.due("back(-1)", x.back(-1), BAD);
        CHECK.due("there was none", x.keep(1), 0);
        x.fox(1);
        x.go(2);
        x.go(1);
        CHECK.due("nor this one", x.keep(0), 0);
        x.join(0, 1, false);
        x.join(3, 4, true);
        x.start(NONE);
        x.forget(0);
        x.smelt(1, 1, 1);
        x.smelt(1, 2, 1);
        x.fox(4);
        x.sheet(0, 0, 2);
        CHECK.due("where he was", x.back(0), 1);
        CHECK.due("lanes", x.rule(1), 2);
        CHECK.due("lanes(1)", x.lanes(1), 5);
        CHECK.due("start", x.rule(3), 2);
        CHECK.due("moves", x.now(1), 2);
        CHECK.due("smells", x.smell(1), 16);
        CHECK.due("smells", x.smell(2), 8);
        CHECK.due("smells", x.smell(4), 0);
        CHECK.due("smelt", x.count(0), 1);
        CHECK.due("and how", x.sure(0, 0), 2);
        CHECK.due("sheets are none of it", x.count(4), 2);
        CHECK.due("an image is not moved by what follows", x.go(1), 18);
        x.smelt(5, 0, 0);
        CHECK.due("back again", x.back(0), 1);
        CHECK.due("as it was", x.smell(1), 16);
        CHECK.due("as it was", x.count(0), 1);
        CHECK.due("the other one", x.back(1), NONE);
        CHECK.due("the fox was nowhere", x.go(1), STATE);
        CHECK.due("there was one", x.keep(0), 1);
        CHECK.due("which is new", x.back(0), NONE);
        CHECK.due("two", x.count(2), 2);
    }

    private static void sheets() {
        HuntedScent x = new HuntedScent();
        int[][] bad = {{-1, 0, 1}, {4, 0, 1}, {0, -1, 1}, {0, 3, 1}, {0, 0, 41}, {4, 0, -1}, {0, 3, -1}};
        for (int[] b : bad) {
            CHECK.due("sheet " + b[0] + " " + b[1] + " " + b[2], x.sheet(b[0], b[1], b[2]), BAD);
        }
        CHECK.due("below 0", x.sheet(0, 0, -1), -14);
        CHECK.due("below 0", x.sheet(3, 2, Integer.MIN_VALUE), -14);
        CHECK.due("still nothing", x.count(4), NONE);
        CHECK.due("lay on nothing", x.lay(0, 0, 1), -11);
        CHECK.due("lay on nothing, wherever", x.lay(0, -1, 1), -11);
        CHECK.due("lay(-1)", x.lay(-1, 0, 1), BAD);
        CHECK.due("lay(4)", x.lay(4, 0, 1), BAD);
        CHECK.due("no cells", x.sheet(0, 1, 0), 1);
        CHECK.due("no cells", x.lay(0, 0, 1), -12);
        CHECK.due("40 cells", x.sheet(0, 2, 40), 1);
        CHECK.due("the last", x.lay(0, 39, 1), 1);
        CHECK.due("behind it", x.lay(0, 40, 1), -12);
        CHECK.due("ahead of all", x.lay(0, -1, 1), -12);
        CHECK.due("far off", x.lay(0, Integer.MAX_VALUE, 1), -12);
        CHECK.due("far off", x.lay(0, Integer.MIN_VALUE, 1), -12);
        CHECK.due("refused: stays", x.sheet(0, 0, -1), -14);
        CHECK.due("40 cells still", x.count(4), 40);
        CHECK.due("a new row", x.sheet(0, 2, 3), 1);
        x.lay(0, 0, 5);
        x.lay(0, 1, 4);
        x.lay(0, 2, 18);
        CHECK.due("read", x.read(0, 2, 0, 1), 1);
        CHECK.due("a new row again", x.sheet(0, 2, 3), 1);
        x.forget(0);
        x.read(0, 2, 0, 1);
        CHECK.due("of cells 0", x.ways(0), 4);
    }

    /** What is laid is cut to the width of its lane, with a sign. */
    private static void narrowCells() {
        HuntedScent x = new HuntedScent();
        int[] laid = {256 + 3, 65536 + 3, 3};
        for (int lane = 0; lane < 3; lane++) {
            x.forget(0);
            x.sheet(1, lane, 3);
            x.lay(1, 0, laid[lane]);
            CHECK.due("lane " + lane, x.read(1, lane, 0, 1), 1);
            x.lay(1, 0, lane == 0 ? 255 : lane == 1 ? 65535 : -1);
            CHECK.due("has a sign", x.read(1, lane, 0, 1), -20);
        }
        x.lay(1, 0, 65536 + 3);
        CHECK.due("ints are not cut", x.read(1, 2, 0, 1), -20);
        x.sheet(1, 1, 3);
        x.lay(1, 0, 256 + 3);
        CHECK.due("shorts are not cut to bytes", x.read(1, 1, 0, 1), -20);
    }

    private static void reads() {
        HuntedScent x = new HuntedScent();
        int[][] bad = {{-1, 0, 1}, {4, 0, 1}, {0, -1, 1}, {0, 3, 1}, {0, 0, -1}, {0, 0, 11}};
        for (int[] b : bad) {
            CHECK.due("read " + b[0] + " " + b[1] + " " + b[2], x.read(b[0], b[1], 0, b[2]), BAD);
        }
        x.sheet(0, 0, 7);
        for (int i = 0; i < 7; i++) {
            x.lay(0, i, i % 5);
        }
        CHECK.due("two, whole", x.read(0, 0, 0, 3), 2);
        CHECK.due("a third is not", x.torn(), 2);
        CHECK.due("they came", x.count(0), 2);
        CHECK.due("two from cell 1 on", x.read(0, 0, 1, 2), 2);
        CHECK.due("no fault", x.torn(), 0);
        CHECK.due("none whole", x.read(0, 0, 5, 1), 0);
        CHECK.due("a fault", x.torn(), 2);
        CHECK.due("four", x.count(0), 4);
        x.forget(0);
        x.read(0, 0, 1, 1);
        CHECK.due("turn 1, node 2, how strong 3", x.cannot(), 0);
        x.join(1, 2, true);
        CHECK.due("can not be: 9 or 8 or 0", x.ways(1), 0);
        x.lay(0, 3, 9);
        x.forget(0);
        x.read(0, 0, 1, 1);
        CHECK.due("in turn 1 in node 2", x.sure(1, 1), 2);
        CHECK.due("from 1", x.sure(1, 0), 1);
    }

    private static void refusedReads() {
        HuntedScent x = new HuntedScent();
        x.sheet(2, 2, 9);
        x.lay(2, 4, 5);
        x.smelt(0, 0, 0);
        x.read(2, 2, 9, 1);
        CHECK.due("a fault", x.torn(), 2);
        CHECK.due("no such node", x.read(2, 2, 0, 3), -21);
        CHECK.due("none came", x.count(0), 1);
        CHECK.due("the fault is left", x.torn(), 2);
        CHECK.due("one ahead of it", x.read(2, 2, 0, 1), 1);
        x.lay(2, 4, 4);
        x.forget(0);
        for (int i = 0; i < 8; i++) {
            x.smelt(0, 0, 0);
        }
        CHECK.due("full", x.read(2, 2, 0, 3), -22);
        CHECK.due("none came", x.count(0), 8);
        CHECK.due("a fault ahead of that", x.read(2, 2, 3, 3), 2);
        CHECK.due("two came", x.count(0), 10);
        CHECK.due("full at once", x.read(2, 2, 0, 1), -20);
        CHECK.due("but a fault is met first", x.read(2, 2, 7, 1), 0);
        CHECK.due("wrong numbers leave the fault, too", x.read(2, 2, 0, 11), BAD);
        CHECK.due("it is INDEX", x.torn(), 2);
    }

    private static void faults() {
        HuntedScent x = new HuntedScent();
        CHECK.due("nothing", x.read(1, 1, 0, 1), 0);
        CHECK.due("is NULL", x.torn(), 1);
        CHECK.due("of n 0: 0", x.read(1, 1, 50, 0), 0);
        CHECK.due("no fault", x.torn(), 0);
        x.sheet(1, 1, 3);
        CHECK.due("another lane", x.read(1, 2, 9, 1), 0);
        CHECK.due("is CAST", x.torn(), 3);
        CHECK.due("another lane, n 0", x.read(1, 2, 9, 0), 0);
        CHECK.due("no fault", x.torn(), 0);
        int[] cells = {-1, 1, 3, 40, Integer.MAX_VALUE, Integer.MAX_VALUE - 1, Integer.MIN_VALUE};
        for (int f : cells) {
            x.read(1, 1, 0, 0);
            CHECK.due("from cell " + f, x.read(1, 1, f, 10), 0);
            CHECK.due("is INDEX", x.torn(), 2);
        }
        x.text();
        CHECK.due("a text leaves it", x.torn(), 2);
        CHECK.due("and the sheet", x.read(1, 1, 0, 1), 1);
    }

    private static void counts() {
        HuntedScent x = Check.told("lane 0 1 2;");
        CHECK.due("count(-1)", x.count(-1), BAD);
        CHECK.due("count(5)", x.count(5), BAD);
        x.smelt(0, 0, 0);
        CHECK.due("smelt", x.count(0), 1);
        x.fox(0);
        x.go(1);
        CHECK.due("nodes with a smell", x.count(1), 2);
        x.keep(1);
        CHECK.due("images", x.count(2), 1);
        x.feed(0);
        x.end(3);
        CHECK.due("bytes", x.count(3), 3);
        x.sheet(1, 0, 7);
        CHECK.due("of sheet 0", x.count(4), NONE);
        x.sheet(0, 0, 0);
        CHECK.due("no cells", x.count(4), 0);
        x.sheet(0, 0, 40);
        CHECK.due("40 cells", x.count(4), 40);
    }
}
