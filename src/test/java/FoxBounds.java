/** Boundary cases of the fox and of his smell: promises 11 to 14. */
final class FoxBounds {
    private final Bounds b;

    private FoxBounds(Bounds b) {
        this.b = b;
    }

    static void all(Bounds b) {
        FoxBounds t = new FoxBounds(b);
        t.begins();
        t.goes();
        t.moves();
        t.fades();
        t.grows();
        t.water();
        t.smells();
        t.nowOf();
        t.nowStrongest();
    }

    private static HuntedScent goes(HuntedScent x, int... nodes) {
        x.fox(nodes[0]);
        for (int i = 1; i < nodes.length; i++) {
            x.go(nodes[i]);
        }
        return x;
    }

    private void begins() {
        b.says(11, "THE FOX begins on a NODE: the SMELL there.");
        int[] sizes = {2, 5, 10};
        for (int n : sizes) {
            HuntedScent x = Check.told("nodes " + n + ";water 1;");
            b.due("fox(0) of " + n, x.fox(0), 9);
            b.due("on water", x.fox(1), 0);
            b.due("where", x.now(0), 1);
            b.due("the last node", x.fox(n - 1), n == 2 ? 0 : 9);
            b.due("where", x.now(0), n - 1);
        }
        b.says(11, "BAD.");
        for (int n : sizes) {
            HuntedScent x = Check.told("nodes " + n + ";rest;");
            for (int i : Bounds.noNodes(n)) {
                b.due("fox(" + i + ") of " + n, x.fox(i), Bounds.BAD);
                b.due("he is nowhere", x.now(0), Bounds.NONE);
            }
            goes(x, 1, 1);
            for (int i : Bounds.noNodes(n)) {
                b.due("fox(" + i + ") of " + n, x.fox(i), Bounds.BAD);
                b.due("he is where he was", x.now(0), 1);
                b.due("so is his smell", x.smell(1), 17);
            }
        }
        b.says(11, "When he begins: all 0, then 9 where he is.");
        HuntedScent x = goes(Check.told("lane 0 1 2;rest;"), 0, 1, 2, 2);
        b.due("he begins anew", x.fox(0), 9);
        b.due("there", x.smell(0), 9);
        b.due("not elsewhere", x.smell(1), 0);
        b.due("not elsewhere", x.smell(2), 0);
        b.due("on one node", x.count(1), 1);
        b.due("begins where he is", goes(Check.told("rest;"), 3, 3, 3).fox(3), 9);
    }

    private void goes() {
        b.says(12, "A MOVE of THE FOX to a NODE: the SMELL there then.");
        HuntedScent x = Check.told("nodes 10;lane 0 9;");
        x.fox(0);
        b.due("go(9)", x.go(9), 9);
        b.due("go(0)", x.go(0), 16);
        b.says(12, "BAD; STATE: he is nowhere; NONE: there is no such MOVE.");
        int[] sizes = {2, 5, 10};
        for (int n : sizes) {
            HuntedScent y = Bounds.row(n, "");
            for (int i : Bounds.noNodes(n)) {
                b.due("nowhere: go(" + i + ") of " + n, y.go(i), Bounds.BAD);
            }
            for (int i = 0; i < n; i++) {
                b.due("nowhere: go(" + i + ") of " + n, y.go(i), Bounds.STATE);
            }
            y.fox(0);
            for (int i : Bounds.noNodes(n)) {
                b.due("go(" + i + ") of " + n, y.go(i), Bounds.BAD);
            }
            for (int i = 0; i < n; i++) {
                b.due("from 0: go(" + i + ") of " + n, i == 1 ? Bounds.NONE : y.go(i), Bounds.NONE);
            }
            b.due("where", y.now(0), 0);
            b.due("moves", y.now(1), 0);
            b.due("smells", y.now(3), 9);
        }
        HuntedScent z = Check.told("lane 0 1;");
        z.fox(0);
        z.join(0, 1, false);
        b.due("a lane that is no longer", z.go(1), Bounds.NONE);
        z.text();
        b.due("nowhere again", z.go(0), Bounds.STATE);
    }

    private void moves() {
        b.says(12, "A MOVE leads to a NODE that is joined, or leaves him where he is, if REST is told.");
        HuntedScent x = Check.told("lane 0 1;");
        x.fox(0);
        b.due("stays, no rest", x.go(0), Bounds.NONE);
        b.due("goes on", x.go(1), 9);
        HuntedScent y = Check.told("lane 0 1;rest;");
        y.fox(0);
        b.due("stays, rest", y.go(0), 17);
        b.due("goes on", y.go(1), 9);
        b.due("not joined", y.go(2), Bounds.NONE);
        HuntedScent z = Check.told("rest;");
        z.fox(4);
        b.due("no lanes, rest", z.go(4), 17);
        b.due("no lanes, another node", z.go(3), Bounds.NONE);
        HuntedScent w = new HuntedScent();
        w.fox(4);
        for (int i = 0; i < 5; i++) {
            b.due("no lanes, no rest", w.go(i), Bounds.NONE);
        }
    }

    private void fades() {
        b.says(12, "With a MOVE: each is one less (0 at least),");
        HuntedScent x = goes(Check.told("lane 0 1;rest;"), 0, 1);
        for (int strong = 8; strong > -3; strong--) {
            b.due("where he was", x.smell(0), Math.max(0, strong));
            b.due("nodes with a smell", x.count(1), strong > 0 ? 2 : 1);
            x.go(1);
        }
        HuntedScent y = goes(Check.told("lane 0 1;rest;"), 0, 0, 0, 1);
        for (int strong = 17; strong > -3; strong--) {
            b.due("where he was three times", y.smell(0), Math.max(0, strong));
            y.go(1);
        }
    }

    private void grows() {
        b.says(12, "then that of the NODE where he is 9 more (18 at most).");
        HuntedScent x = Check.told("lane 0 1;rest;");
        for (int stays = 0; stays < 20; stays++) {
            goes(x, 0, 0, 1);
            for (int i = 0; i < stays; i++) {
                x.go(1);
            }
            int faded = Math.max(0, 16 - stays - 1);
            b.due("back to " + (faded + 1), x.go(0), Math.min(18, faded + 9));
        }
        b.says(12, "SMELLS: of each NODE 0 to 18.");
        HuntedScent y = goes(Check.told("rest;"), 0);
        int[] due = {17, 18, 18, 18};
        for (int want : due) {
            b.due("he stays", y.go(0), want);
            b.due("smell(0)", y.smell(0), want);
            b.due("smell(1)", y.smell(1), 0);
        }
    }

    private void water() {
        b.says(13, "On WATER it is 0 always.");
        HuntedScent x = Check.told("lane 0 1;water 0;rest;");
        b.due("he begins there", x.fox(0), 0);
        b.due("and stays", x.go(0), 0);
        b.due("smell(0)", x.smell(0), 0);
        b.due("goes on", x.go(1), 9);
        b.due("behind him", x.smell(0), 0);
        b.due("comes back", x.go(0), 0);
        b.due("the other one", x.smell(1), 8);
        b.due("nodes with a smell", x.count(1), 1);
        b.due("summed", x.now(3), 8);
        HuntedScent y = goes(Check.told("nodes 10;lane 9 8;water 9;"), 8);
        b.due("the last node", y.go(9), 0);
    }

    private void smells() {
        b.says(13, "The SMELL of a NODE.");
        HuntedScent x = goes(Check.told("nodes 10;lane 0 9;rest;"), 0, 0, 0, 9);
        b.due("smell(0)", x.smell(0), 17);
        b.due("smell(9)", x.smell(9), 9);
        for (int i = 1; i < 9; i++) {
            b.due("smell(" + i + ")", x.smell(i), 0);
        }
        b.says(13, "BAD.");
        int[] sizes = {2, 5, 10};
        for (int n : sizes) {
            HuntedScent y = Check.told("nodes " + n + ";");
            b.due("nowhere: smell(0)", y.smell(0), 0);
            b.due("nowhere: the last node", y.smell(n - 1), 0);
            y.fox(n - 1);
            for (int i : Bounds.noNodes(n)) {
                b.due("smell(" + i + ") of " + n, y.smell(i), Bounds.BAD);
            }
        }
    }

    private void nowOf() {
        b.says(14, "THE FOX: the NODE where he is (what 0; NONE: nowhere),");
        HuntedScent x = Check.told("nodes 10;lane 0 9;rest;");
        b.due("nowhere", x.now(0), Bounds.NONE);
        x.fox(0);
        b.due("on 0", x.now(0), 0);
        x.go(9);
        b.due("on 9", x.now(0), 9);

        b.says(14, "MOVES he has made (1),");
        HuntedScent y = Check.told("rest;");
        b.due("nowhere", y.now(1), 0);
        y.fox(0);
        b.due("none yet", y.now(1), 0);
        for (int i = 1; i <= 450; i++) {
            y.go(0);
        }
        b.due("450", y.now(1), 450);
        y.go(1);
        b.due("no such move is none", y.now(1), 450);
        y.fox(1);
        b.due("he begins anew", y.now(1), 0);

        b.says(14, "all SMELLS, summed (3).");
        HuntedScent z = Check.told("lane 0 1;rest;water 4;");
        b.due("nowhere", z.now(3), 0);
        b.due("on water", goes(z, 4).now(3), 0);
        b.due("begun", goes(z, 0).now(3), 9);
        b.due("gone", goes(z, 0, 1).now(3), 17);
        b.due("faded to 0, and no less", goes(z, 0, 1, 1, 1, 1, 1, 1, 1, 1, 1, 1, 1).now(3), 18);
        b.due("long ways between two nodes", goes(z, 0, 1, 0, 1, 0, 1, 0, 1, 0, 1).now(3), 18 + 17);

        b.says(14, "BAD.");
        for (int what : Bounds.beyond(0, 3)) {
            b.due("now(" + what + ")", z.now(what), Bounds.BAD);
            b.due("nowhere: now(" + what + ")", new HuntedScent().now(what), Bounds.BAD);
        }
    }

    private void nowStrongest() {
        b.says(14, "the joined NODE with the strongest SMELL, of several the least (2; NONE: none, all 0),");
        HuntedScent x = Check.told("nodes 10;lane 0 1;lane 2 0;lane 0 9;rest;");
        b.due("nowhere", x.now(2), Bounds.NONE);
        b.due("all 0", goes(x, 0).now(2), Bounds.NONE);
        b.due("none is joined", goes(x, 5, 5).now(2), Bounds.NONE);
        b.due("node 0", goes(x, 0, 9).now(2), 0);
        b.due("node 9", goes(x, 9, 0).now(2), 9);
        b.due("his own is not asked", goes(x, 9, 0, 0, 0).now(2), 9);
        b.due("the stronger one", goes(x, 1, 0, 2, 0).now(2), 2);
        b.due("the stronger one, which is less", goes(x, 2, 0, 1, 0).now(2), 1);
        b.due("1 strong", goes(x, 9, 0, 0, 0, 0, 0, 0, 0, 0).now(2), 9);
        b.due("0 then", goes(x, 9, 0, 0, 0, 0, 0, 0, 0, 0, 0).now(2), Bounds.NONE);
        HuntedScent tied = goes(x, 2, 0, 2, 0, 0, 0, 0, 0, 0, 1, 0);
        b.due("as strong", tied.smell(1), tied.smell(2));
        b.due("of 1 and 2 the least", tied.now(2), 1);
        tied = goes(x, 9, 0, 9, 0, 0, 0, 0, 0, 0, 2, 0);
        b.due("as strong", tied.smell(2), tied.smell(9));
        b.due("of 2 and 9 the least", tied.now(2), 2);
        HuntedScent wet = Check.told("lane 0 1;water 1;");
        b.due("joined to water alone", goes(wet, 1, 0).now(2), Bounds.NONE);
        HuntedScent apart = goes(Check.told("lane 0 1;"), 0, 1);
        apart.join(0, 1, false);
        b.due("no longer joined", apart.now(2), Bounds.NONE);
    }
}
