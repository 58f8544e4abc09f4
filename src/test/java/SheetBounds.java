/** Boundary cases of sheets: promises 35 to 38. */
final class SheetBounds {
    private static final int NULL = 1, INDEX = 2, CAST = 3;

    private final Bounds b;

    private SheetBounds(Bounds b) {
        this.b = b;
    }

    static void all(Bounds b) {
        SheetBounds t = new SheetBounds(b);
        t.makes();
        t.wrongSheets();
        t.lays();
        t.lowestBits();
        t.wrongLays();
        t.reads();
        t.wholeOnes();
        t.faultsOfReads();
        t.nothingAsked();
        t.wrongReads();
        t.refusedBySmelt();
        t.full();
        t.torn();
    }

    /** A sheet of smelt()s: turn 0, node i modulo 5, 0 strong. */
    private static HuntedScent laid(int k, int lane, int cells) {
        HuntedScent x = new HuntedScent();
        x.sheet(k, lane, cells);
        for (int i = 1; i < cells; i += 3) {
            x.lay(k, i, i / 3 % 5);
        }
        return x;
    }

    private void makes() {
        b.says(35, "A SHEET is a new row of CELLS 0: 1.");
        for (int k = 0; k < 4; k++) {
            for (int lane = 0; lane < 3; lane++) {
                HuntedScent x = new HuntedScent();
                String told = "sheet(" + k + ", " + lane + ", ";
                b.due(told + "0)", x.sheet(k, lane, 0), 1);
                b.due("no cells", x.lay(k, 0, 0), -10 - INDEX);
                b.due(told + "40)", x.sheet(k, lane, 40), 1);
                b.due("the last cell", x.lay(k, 39, 7), 1);
                b.due("behind it", x.lay(k, 40, 7), -10 - INDEX);
                b.due("the first cell", x.lay(k, 0, 6), 1);
                b.due("6 is no turn", x.read(k, lane, 0, 1), -20);
                b.due("again: " + told + "3)", x.sheet(k, lane, 3), 1);
                b.due("of cells 0", x.read(k, lane, 0, 1), 1);
                b.due("turn 0, node 0, 0 strong", x.ways(0), 4);
                b.due("three cells", x.lay(k, 3, 0), -10 - INDEX);
                for (int other = 0; other < 4; other++) {
                    b.due("sheet " + other, x.lay(other, 0, 0), other == k ? 1 : -10 - NULL);
                }
            }
        }
        HuntedScent y = new HuntedScent();
        y.sheet(0, 0, 40);
        y.lay(0, 39, 3);
        y.sheet(0, 0, 0);
        y.sheet(0, 0, 40);
        b.due("what was there is gone", y.read(0, 0, 37, 1), 1);
        b.due("0 strong, not 3", y.ways(0), 4);
    }

    private void wrongSheets() {
        b.says(35, "BAD: also n above 40; -14 (SIZE): n below 0.");
        HuntedScent x = new HuntedScent();
        for (int lane = 0; lane < 3; lane++) {
            for (int n : Bounds.beyond(0, 40)) {
                b.due("sheet(0, " + lane + ", " + n + ")", x.sheet(0, lane, n), n < 0 ? -14 : Bounds.BAD);
            }
            for (int k : Bounds.beyond(0, 3)) {
                b.due("sheet(" + k + ", " + lane + ", 1)", x.sheet(k, lane, 1), Bounds.BAD);
                b.due("sheet(" + k + ", " + lane + ", -1)", x.sheet(k, lane, -1), Bounds.BAD);
            }
        }
        for (int lane : Bounds.beyond(0, 2)) {
            b.due("sheet(0, " + lane + ", 1)", x.sheet(0, lane, 1), Bounds.BAD);
            b.due("sheet(0, " + lane + ", -1)", x.sheet(0, lane, -1), Bounds.BAD);
        }
        b.due("still nothing", x.count(4), Bounds.NONE);
        x.sheet(0, 1, 5);
        b.due("below 0", x.sheet(0, 0, -1), -14);
        b.due("above 40", x.sheet(0, 0, 41), Bounds.BAD);
        b.due("as it was", x.count(4), 5);
        b.due("of shorts", x.read(0, 1, 0, 1), 1);
    }

    private void lays() {
        b.says(36, "CELL i of a SHEET becomes v");
        for (int lane = 0; lane < 3; lane++) {
            HuntedScent x = laid(2, lane, 40);
            for (int i = 0; i < 40; i++) {
                b.due("lay(2, " + i + ", 4) in lane " + lane, x.lay(2, i, 4), 1);
            }
            b.due("the first three", x.read(2, lane, 0, 1), 1);
            b.due("the last three", x.read(2, lane, 37, 1), 1);
            x.lay(2, 39, 19);
            b.due("the last", x.read(2, lane, 37, 1), -20);
            b.due("not the one ahead of it", x.read(2, lane, 36, 1), 1);
            x.lay(2, 0, -1);
            b.due("the first", x.read(2, lane, 0, 1), -20);
            b.due("not the next", x.read(2, lane, 1, 1), 1);
        }
    }

    /** What a cell holds is told by the node where he was, of ten; else no smelt() takes it. */
    private void heldAs(int lane, int v, int due) {
        HuntedScent x = Check.told("nodes 10;");
        x.sheet(0, lane, 3);
        x.lay(0, 2, 9);
        b.due("lay " + v + " in lane " + lane, x.lay(0, 1, v), 1);
        boolean isNode = due >= 0 && due < 10;
        b.due(v + " in lane " + lane + " is read", x.read(0, lane, 0, 1), isNode ? 1 : -20);
        b.due(v + " in lane " + lane + " is", isNode ? x.sure(0, 0) : due, due);
    }

    private void lowestBits() {
        b.says(36, "(its lowest bits): 1.");
        int[] ahead = {0, 256, -256, 512, 65536, -65536, 1 << 24, 1 << 30, Bounds.LEAST, Bounds.LEAST + 65536};
        for (int high : ahead) {
            for (int low = 0; low < 10; low += 9) {
                heldAs(0, high + low, low);
                heldAs(1, high + low, (short) (high + low));
                heldAs(2, high + low, high + low);
            }
        }
        b.says(36, "SHEETS 0 to 3 are rows of BYTES (lane 0), SHORTS (1), INTS (2), all with a sign, with 0 to 40 CELLS, or nothing (at first).");
        int[] signs = {-1, 127, 128, -128, -129, 255, 32767, 32768, -32768, -32769, 65535, Bounds.MOST, Bounds.LEAST};
        for (int v : signs) {
            heldAs(0, v, (byte) v);
            heldAs(1, v, (short) v);
            heldAs(2, v, v);
        }
        heldAs(0, 128 + 256 * 3 + 1, -127);
        heldAs(1, 32768 + 65536 * 3 + 1, -32767);
    }

    private void wrongLays() {
        b.says(36, "BAD: k; -10 less the FAULT: NULL, INDEX.");
        HuntedScent x = laid(3, 0, 5);
        for (int k : Bounds.beyond(0, 3)) {
            b.due("lay(" + k + ", 0, 0)", x.lay(k, 0, 0), Bounds.BAD);
            b.due("lay(" + k + ", -1, 0)", x.lay(k, -1, 0), Bounds.BAD);
        }
        for (int i : Bounds.beyond(0, 4)) {
            b.due("lay(3, " + i + ", 0) of five", x.lay(3, i, 0), -10 - INDEX);
            b.due("lay(0, " + i + ", 0) of nothing", x.lay(0, i, 0), -10 - NULL);
        }
        b.due("lay(0, 0, 0) of nothing", x.lay(0, 0, 0), -10 - NULL);
        b.due("lay(0, 4, 0) of nothing", x.lay(0, 4, 0), -10 - NULL);
        b.due("lay is no read()", x.torn(), 0);
    }

    private void reads() {
        b.says(37, "n (0 to 10) smelt()s (TURN, NODE, how strong) are read of a SHEET taken as of a lane, three CELLS each from CELL f on: how many came.");
        for (int k = 0; k < 4; k++) {
            for (int lane = 0; lane < 3; lane++) {
                HuntedScent x = laid(k, lane, 40);
                for (int n = 0; n <= 10; n++) {
                    x.forget(0);
                    b.due("read(" + k + ", " + lane + ", 0, " + n + ")", x.read(k, lane, 0, n), n);
                    b.due("came", x.count(0), n);
                    b.due("no fault", x.torn(), 0);
                }
            }
        }
        HuntedScent y = Check.told("nodes 10;rest;");
        y.sheet(0, 2, 40);
        y.lay(0, 37, 5);
        y.lay(0, 38, 9);
        y.lay(0, 39, 18);
        b.due("the last three cells", y.read(0, 2, 37, 1), 1);
        b.due("turn 5, node 9, 18 strong", y.can(5, 5), 512);
        y.forget(0);
        y.lay(0, 0, 0);
        y.lay(0, 1, 4);
        y.lay(0, 2, 9);
        b.due("the first three cells", y.read(0, 2, 0, 1), 1);
        b.due("turn 0, node 4, 9 strong", y.sure(0, 0), 4);
    }

    private void wholeOnes() {
        b.says(37, "What the machine refuses: those that were whole ahead come (its FAULT is asked by torn();");
        for (int cells = 0; cells <= 40; cells++) {
            HuntedScent x = laid(1, 1, cells);
            int whole = Math.min(10, cells / 3);
            b.due("ten of " + cells + " cells", x.read(1, 1, 0, 10), whole);
            b.due("came", x.count(0), whole);
            b.due("torn()", x.torn(), whole == 10 ? 0 : INDEX);
        }
        HuntedScent x = laid(1, 1, 40);
        for (int f = 9; f <= 41; f++) {
            x.forget(0);
            int whole = Math.max(0, Math.min(10, (40 - f) / 3));
            x.sheet(1, 1, 40);
            b.due("ten from cell " + f + " on", x.read(1, 1, f, 10), whole);
            b.due("torn()", x.torn(), whole == 10 ? 0 : INDEX);
        }
        int[] far = {-1, -2, -3, -30, 40, 41, Bounds.LEAST, Bounds.LEAST + 1, Bounds.MOST, Bounds.MOST - 1, Bounds.MOST - 2, Bounds.MOST - 29};
        for (int f : far) {
            x.forget(0);
            x.read(1, 1, 0, 0);
            b.due("from cell " + f + " on", x.read(1, 1, f, 10), 0);
            b.due("none came", x.count(0), 0);
            b.due("torn()", x.torn(), INDEX);
        }
    }

    private void faultsOfReads() {
        b.says(37, "A FAULT is what the machine finds: 1 NULL (nothing), 2 INDEX, 3 CAST (another lane), 4 SIZE (below 0).");
        for (int is = 0; is < 3; is++) {
            HuntedScent x = laid(0, is, 3);
            for (int as = 0; as < 3; as++) {
                x.forget(0);
                b.due("of lane " + is + ", taken as of " + as, x.read(0, as, 0, 1), is == as ? 1 : 0);
                b.due("torn()", x.torn(), is == as ? 0 : CAST);
                b.due("from a cell that is none", x.read(0, as, 3, 1), 0);
                b.due("torn()", x.torn(), is == as ? INDEX : CAST);
                b.due("of nothing", x.read(1, as, 0, 1), 0);
                b.due("torn()", x.torn(), NULL);
                b.due("of nothing, from a cell that is none", x.read(1, as, -1, 10), 0);
                b.due("torn()", x.torn(), NULL);
            }
            x.sheet(0, is, 0);
            b.due("no cells, of its lane", x.read(0, is, 0, 1), 0);
            b.due("torn()", x.torn(), INDEX);
            b.due("no cells, of another", x.read(0, (is + 1) % 3, 0, 1), 0);
            b.due("torn()", x.torn(), CAST);
            b.due("below 0", x.sheet(0, is, -1), -10 - 4);
            b.due("which torn() does not tell", x.torn(), CAST);
        }
    }

    private void nothingAsked() {
        b.says(37, "of n 0: 0, no FAULT, whatever the SHEET is).");
        HuntedScent x = laid(0, 0, 3);
        int[] from = {0, 1, 3, -1, 40, Bounds.LEAST, Bounds.MOST};
        for (int f : from) {
            for (int k = 0; k < 2; k++) {
                for (int lane = 0; lane < 3; lane++) {
                    x.read(3, 0, 0, 1);
                    b.due("read(" + k + ", " + lane + ", " + f + ", 0)", x.read(k, lane, f, 0), 0);
                    b.due("torn()", x.torn(), 0);
                }
            }
        }
        b.due("none came", x.count(0), 0);
    }

    private void wrongReads() {
        b.says(37, "BAD: k, lane, n;");
        HuntedScent x = laid(0, 0, 40);
        x.read(1, 0, 0, 1);
        for (int k : Bounds.beyond(0, 3)) {
            b.due("read(" + k + ", 0, 0, 1)", x.read(k, 0, 0, 1), Bounds.BAD);
            b.due("read(" + k + ", 0, 0, 0)", x.read(k, 0, 0, 0), Bounds.BAD);
        }
        for (int lane : Bounds.beyond(0, 2)) {
            b.due("read(0, " + lane + ", 0, 1)", x.read(0, lane, 0, 1), Bounds.BAD);
            b.due("read(0, " + lane + ", 0, 0)", x.read(0, lane, 0, 0), Bounds.BAD);
        }
        for (int n : Bounds.beyond(0, 10)) {
            b.due("read(0, 0, 0, " + n + ")", x.read(0, 0, 0, n), Bounds.BAD);
            b.due("of nothing: read(1, 0, 0, " + n + ")", x.read(1, 0, 0, n), Bounds.BAD);
            b.due("from no cell: read(0, 0, -1, " + n + ")", x.read(0, 0, -1, n), Bounds.BAD);
        }
        b.due("none came", x.count(0), 0);
        b.due("the fault is left", x.torn(), NULL);
    }

    private void refusedBySmelt() {
        b.says(37, "-20 less i (from 0 on): the i-th, whole, is refused by smelt() (in whichever way): then none came; the first met.");
        int[][] wrong = {{0, -1}, {0, 6}, {0, 127}, {1, -1}, {1, 5}, {1, 127}, {2, -1}, {2, 19}, {2, -128}};
        for (int[] w : wrong) {
            for (int i = 0; i < 10; i++) {
                HuntedScent x = laid(0, 0, 31);
                x.read(0, 0, 29, 1);
                x.lay(0, 3 * i + w[0], w[1]);
                b.due("the " + i + "-th has " + w[1] + " in cell " + w[0], x.read(0, 0, 0, 10), -20 - i);
                b.due("none came", x.count(0), 0);
                b.due("the fault is left", x.torn(), INDEX);
                b.due("those ahead would", x.read(0, 0, 0, i), i);
                b.due("without a fault", x.torn(), 0);
            }
        }
        HuntedScent x = laid(0, 0, 8);
        x.smelt(0, 0, 0);
        x.lay(0, 4, 5);
        b.due("refused ahead of the machine", x.read(0, 0, 0, 3), -21);
        b.due("one is there", x.count(0), 1);
        x.lay(0, 4, 4);
        x.lay(0, 6, 6);
        b.due("the third is not whole: not asked", x.read(0, 0, 0, 3), 2);
        b.due("torn()", x.torn(), INDEX);
        b.due("two came", x.count(0), 3);
        x.lay(0, 0, -1);
        x.lay(0, 3, -1);
        b.due("of two the first met", x.read(0, 0, 0, 2), -20);
    }

    private void full() {
        b.says(37, "is refused by smelt() (in whichever way): then none came;");
        for (int had = 0; had <= 10; had++) {
            HuntedScent x = laid(0, 0, 30);
            for (int i = 0; i < had; i++) {
                x.smelt(0, 0, 0);
            }
            b.due("all that there is room for, had " + had, x.read(0, 0, 0, 10 - had), 10 - had);
            b.due("ten", x.count(0), 10);
            x.forget(had);
            if (had > 0) {
                b.due("one too many, had " + had, x.read(0, 0, 0, 11 - had), -20 - (10 - had));
                b.due("none came", x.count(0), had);
                b.due("ten, had " + had, x.read(0, 0, 0, 10), -20 - (10 - had));
                b.due("none came", x.count(0), had);
                b.due("one too many, but not whole", x.read(0, 0, 3 * had, 11 - had), 10 - had);
                b.due("torn()", x.torn(), INDEX);
            }
        }
    }

    private void torn() {
        b.says(38, "The FAULT of the latest read() that answered 0 or more; 0 (one that is refused leaves it).");
        HuntedScent x = laid(0, 0, 4);
        b.due("no read() yet", x.torn(), 0);
        int[] due = {NULL, INDEX, CAST, 0};
        int[][] asked = {{1, 0, 0, 1}, {0, 0, 2, 1}, {0, 1, 0, 1}, {0, 0, 0, 1}};
        for (int i = 0; i < 4; i++) {
            x.forget(0);
            x.read(asked[i][0], asked[i][1], asked[i][2], asked[i][3]);
            b.due("the latest", x.torn(), due[i]);
            x.read(4, 0, 0, 1);
            x.read(0, 3, 0, 1);
            x.read(0, 0, 0, 11);
            x.read(-1, 0, 0, 0);
            b.due("BAD leaves it", x.torn(), due[i]);
            x.lay(0, 3, 19);
            b.due("refused by smelt()", x.read(0, 0, 1, 1), -20);
            b.due("leaves it", x.torn(), due[i]);
            x.lay(0, 3, 0);
            x.text();
            x.sheet(3, 0, -1);
            x.lay(2, 0, 0);
            x.keep(0);
            x.back(0);
            b.due("no other call has to do with it", x.torn(), due[i]);
        }
        x.read(1, 0, 0, 1);
        b.due("a fault", x.torn(), NULL);
        x.read(1, 0, 0, 0);
        b.due("none of n 0", x.torn(), 0);
    }
}
