/** Boundary cases of images and counts: promises 33, 34 and 39. */
final class KeptBounds {
    private final Bounds b;

    private KeptBounds(Bounds b) {
        this.b = b;
    }

    static void all(Bounds b) {
        KeptBounds t = new KeptBounds(b);
        t.keeps();
        t.whatIsKept();
        t.backs();
        t.counts();
    }

    private void keeps() {
        b.says(33, "IMAGE k (0, 1) is LANES, START, THE FOX, SMELLS, what was SMELT: whether there was one (1, 0).");
        HuntedScent x = new HuntedScent();
        for (int k = 0; k < 2; k++) {
            b.due("keep(" + k + ") at first", x.keep(k), 0);
            b.due("images", x.count(2), k + 1);
            b.due("keep(" + k + ") again", x.keep(k), 1);
            b.due("images", x.count(2), k + 1);
        }
        x.back(0);
        b.due("an image stays when all is as it was", x.keep(0), 1);
        x.text();
        b.due("images are gone by a text", x.keep(0), 0);
        b.due("images are gone by a text", x.keep(1), 0);
        b.says(33, "BAD.");
        for (int k : Bounds.beyond(0, 1)) {
            b.due("keep(" + k + ")", new HuntedScent().keep(k), Bounds.BAD);
            b.due("there is one: keep(" + k + ")", x.keep(k), Bounds.BAD);
        }
    }

    private static HuntedScent net() {
        return Check.told("nodes 10;lane 0 9;rest;start 9;water 1;hole 2;smelt 0 9 9;");
    }

    private void whatIsKept() {
        for (int k = 0; k < 2; k++) {
            b.says(34, "All is as IMAGE k:");
            HuntedScent x = net();
            x.fox(9);
            x.go(9);
            x.go(0);
            x.keep(k);
            x.join(0, 9, false);
            x.join(3, 4, true);
            x.start(Bounds.NONE);
            x.smelt(5, 0, 18);
            x.fox(5);
            b.due("back(" + k + ")", x.back(k), 0);
            b.due("lanes(0)", x.lanes(0), 512);
            b.due("lanes(9)", x.lanes(9), 1);
            b.due("lanes(3)", x.lanes(3), 0);
            b.due("start", x.rule(3), 9);
            b.due("where", x.now(0), 0);
            b.due("moves", x.now(1), 2);
            b.due("smell(0)", x.smell(0), 9);
            b.due("smell(9)", x.smell(9), 16);
            b.due("smell(5)", x.smell(5), 0);
            b.due("smelt", x.count(0), 1);
            b.due("and what", x.ways(0), 1);
            b.due("nodes, rest, water, holes stay", x.rule(0) * 1000 + x.rule(2) * 100 + x.rule(4) * 10 + x.rule(5), 10124);
        }
        b.says(33, "LANES, START, THE FOX, SMELLS, what was SMELT");
        HuntedScent y = net();
        y.keep(0);
        y.feed(0);
        y.sheet(0, 1, 40);
        y.read(1, 0, 0, 1);
        y.keep(1);
        y.back(0);
        b.due("the tape is none of it", y.count(3), 8);
        b.due("sheets are none of it", y.count(4), 40);
        b.due("torn() is none of it", y.torn(), 1);
        b.due("the other image is none of it", y.count(2), 2);
    }

    private void backs() {
        b.says(34, "where THE FOX is (NONE: nowhere).");
        HuntedScent x = net();
        x.keep(0);
        x.fox(0);
        x.keep(1);
        b.due("nowhere", x.back(0), Bounds.NONE);
        b.due("nowhere", x.now(0), Bounds.NONE);
        b.due("on 0", x.back(1), 0);
        x.fox(9);
        x.keep(0);
        b.due("on 9", x.back(0), 9);
        b.due("again", x.back(0), 9);
        b.says(34, "BAD; STATE: there is none.");
        for (int k : Bounds.beyond(0, 1)) {
            b.due("back(" + k + ")", x.back(k), Bounds.BAD);
            b.due("none is there: back(" + k + ")", new HuntedScent().back(k), Bounds.BAD);
        }
        for (int k = 0; k < 2; k++) {
            HuntedScent y = net();
            b.due("none is there: back(" + k + ")", y.back(k), Bounds.STATE);
            y.keep(1 - k);
            b.due("the other is there: back(" + k + ")", y.back(k), Bounds.STATE);
            y.keep(k);
            b.due("both are", y.back(k), Bounds.NONE);
            y.text();
            b.due("gone by a text", y.back(k), Bounds.STATE);
            Check.type(y, "rest");
            y.keep(k);
            y.text();
            b.due("not by one that has a fault", y.back(k), Bounds.NONE);
        }
    }

    private void counts() {
        HuntedScent none = new HuntedScent();
        HuntedScent full = Bounds.allJoined(10, "rest;");
        for (int i = 0; i < 10; i++) {
            full.smelt(0, i, 0);
        }
        full.fox(0);
        for (int i = 1; i < 10; i++) {
            full.go(i);
        }
        full.keep(0);
        full.keep(1);
        for (int i = 0; i < 40; i++) {
            full.feed(i);
        }
        full.sheet(0, 2, 40);
        String[] says = {"0 SMELT,", "1 NODES with a SMELL,", "2 IMAGES,", "3 bytes on THE TAPE,", "4 CELLS of SHEET 0 (NONE: nothing)."};
        int[] least = {0, 0, 0, 0, Bounds.NONE};
        int[] most = {10, 9, 2, 320, 40};
        for (int what = 0; what < 5; what++) {
            b.says(39, says[what]);
            b.due("count(" + what + ") of a new object", none.count(what), least[what]);
            b.due("count(" + what + ") of a full one", full.count(what), most[what]);
        }
        b.says(39, "How many: 0 SMELT, 1 NODES with a SMELL");
        full.back(0);
        full.go(0);
        b.due("a smell that is 0 is none", full.count(1), 9);
        HuntedScent x = net();
        x.fox(1);
        b.due("on water none", x.count(1), 0);
        b.says(39, "4 CELLS of SHEET 0 (NONE: nothing)");
        x.sheet(1, 0, 40);
        x.sheet(3, 0, 40);
        b.due("sheets 1 to 3 are not asked", x.count(4), Bounds.NONE);
        x.sheet(0, 0, 0);
        b.due("no cells", x.count(4), 0);
        b.says(39, "BAD.");
        for (int what : Bounds.beyond(0, 4)) {
            b.due("count(" + what + ")", none.count(what), Bounds.BAD);
            b.due("full: count(" + what + ")", full.count(what), Bounds.BAD);
        }
    }
}
