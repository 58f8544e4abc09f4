/** Boundary cases of seasons: promise 32. What is due of nets with lanes was gone through by another program. */
final class SeasonBounds {
    private static final int[] SEEDS = {Bounds.LEAST, Bounds.LEAST + 1, Bounds.MOST, -1, 0, 1, 65535, 65536, 1103515245, -12345};

    private final Bounds b;
    private int seed = 0;

    private SeasonBounds(Bounds b) {
        this.b = b;
    }

    static void all(Bounds b) {
        SeasonBounds t = new SeasonBounds(b);
        t.leastAndMost();
        t.wrongNumbers();
        t.draws();
        t.alikeAtFirst();
        t.lastTurn();
        t.foxWhoCanNotMove();
        t.strongestSmell();
        t.noSmell();
        t.itsOwn();
    }

    private int drawn(int k) {
        seed = seed * 1103515245 + 12345;
        return (seed >>> 16 & 0x7FFF) % k;
    }

    /** Foxes and hounds that are drawn on one node in some hunts, if no lanes are there to draw of. */
    private int alike(int first, int hunts, int nodes) {
        seed = first;
        int found = 0;
        for (int i = 0; i < hunts; i++) {
            int fox = drawn(nodes);
            found += fox == drawn(nodes) ? 1 : 0;
        }
        return found;
    }

    private void leastAndMost() {
        b.says(32, "A SEASON of n HUNTS (1 to 20): foxes that are CAUGHT (what 0), TURNS of all HUNTS, summed (1).");
        int none = 0;
        while (alike(none, 20, 10) > 0) {
            none++;
        }
        HuntedScent x = Check.told("nodes 10;");
        b.due("one hunt: none caught", x.season(none, 1, 0), 0);
        b.due("one hunt: all its turns", x.season(none, 1, 1), 20);
        b.due("20 hunts: none caught", x.season(none, 20, 0), 0);
        b.due("20 hunts: all their turns", x.season(none, 20, 1), 400);
        HuntedScent two = Check.told("nodes 2;lane 0 1;");
        for (int n = 1; n <= 20; n++) {
            b.due(n + " hunts on one lane: all caught", two.season(n, n, 0), n);
            b.due(n + " hunts on one lane: one turn each", two.season(n, n, 1), n);
        }
    }

    private void wrongNumbers() {
        b.says(32, "BAD.");
        HuntedScent x = Check.told("lane 0 1;");
        for (int first : SEEDS) {
            for (int n : Bounds.beyond(1, 20)) {
                b.due(n + " hunts", x.season(first, n, 0), Bounds.BAD);
                b.due(n + " hunts", x.season(first, n, 1), Bounds.BAD);
            }
            for (int what : Bounds.beyond(0, 1)) {
                b.due("what is " + what, x.season(first, 1, what), Bounds.BAD);
            }
            b.holds("no seed is wrong", x.season(first, 1, 0) >= 0 && x.season(first, 20, 1) >= 20);
        }
    }

    private void draws() {
        b.says(32, "A SEASON by a seed: a draw of k: the seed becomes seed times 1103515245 and 12345; bits 16 to 30 of it modulo k.");
        for (int nodes = 2; nodes <= 10; nodes++) {
            HuntedScent x = Check.told("nodes " + nodes + ";");
            for (int first : SEEDS) {
                for (int n = 1; n <= 20; n += 19) {
                    int caught = alike(first, n, nodes);
                    String told = nodes + " nodes, seed " + first + ", " + n + " hunts";
                    b.due("caught of " + told, x.season(first, n, 0), caught);
                    b.due("turns of " + told, x.season(first, n, 1), caught + 20 * (n - caught));
                }
            }
        }
    }

    private void alikeAtFirst() {
        b.says(32, "HUNT by HUNT: the fox begins on a NODE drawn, the hound on a NODE drawn (on his, too: he is not CAUGHT by that);");
        HuntedScent two = Check.told("nodes 2;lane 0 1;");
        HuntedScent none = Check.told("nodes 2;start 0;");
        for (int first = 0; first < 40; first++) {
            b.due("on one lane he is caught", two.season(first, 1, 0), 1);
            b.due("in turn 1", two.season(first, 1, 1), 1);
            b.due("without a lane he is, if they began on one node", none.season(first, 1, 0), alike(first, 1, 2));
            b.due("in turn 1, else in none of 20", none.season(first, 1, 1), alike(first, 1, 2) == 1 ? 1 : 20);
        }
        for (int n = 1; n <= 20; n++) {
            b.due(n + " hunts, one behind another", none.season(0, n, 0), alike(0, n, 2));
        }
    }

    private void hunted(HuntedScent x, int first, int... due) {
        int[] hunts = {1, 2, 20};
        for (int i = 0; i < 3; i++) {
            b.due("caught of " + hunts[i] + " by " + first, x.season(first, hunts[i], 0), due[2 * i]);
            b.due("turns of " + hunts[i] + " by " + first, x.season(first, hunts[i], 1), due[2 * i + 1]);
        }
    }

    private void lastTurn() {
        b.says(32, "then, 20 TURNS at most: he makes a MOVE drawn of those that he has, by NODES");
        HuntedScent x = Bounds.row(10, "");
        hunted(x, 0, 0, 20, 1, 38, 16, 191);
        hunted(x, 65536, 1, 1, 2, 12, 20, 92);
        hunted(x, -1103515245, 0, 20, 1, 37, 17, 129);
        x = Check.told("nodes 10;lane 0 1 2 3 4 5 6 7 8 9 0;rest;");
        hunted(x, 0, 1, 2, 2, 7, 20, 86);
        hunted(x, 65536, 1, 1, 2, 5, 20, 104);
        hunted(x, -1103515245, 1, 8, 2, 9, 20, 59);
    }

    private void foxWhoCanNotMove() {
        b.says(32, "(none: he stays, as by a MOVE; nothing is drawn); is he at the hound, he is CAUGHT;");
        HuntedScent x = Check.told("nodes 3;lane 0 1;");
        hunted(x, 0, 1, 1, 2, 2, 10, 210);
        hunted(x, 65536, 0, 20, 1, 21, 14, 134);
        hunted(x, -1103515245, 1, 1, 1, 21, 13, 153);
        x = Check.told("nodes 3;lane 0 1;rest;");
        hunted(x, 0, 1, 1, 2, 2, 13, 153);
        hunted(x, 65536, 0, 20, 1, 21, 8, 248);
        hunted(x, -1103515245, 1, 1, 1, 21, 12, 172);
    }

    private void strongestSmell() {
        b.says(32, "else the hound goes to the joined NODE with the strongest SMELL, of several the least");
        HuntedScent x = Check.told("nodes 6;lane 0 1 2 0;lane 3 4;water 1;");
        hunted(x, 0, 1, 2, 2, 3, 7, 269);
        hunted(x, 65536, 0, 20, 1, 21, 9, 229);
        hunted(x, -1103515245, 1, 1, 2, 2, 9, 230);
        x = Bounds.star(10, 9, "");
        hunted(x, 0, 1, 1, 2, 2, 20, 22);
        hunted(x, 65536, 1, 1, 2, 2, 20, 21);
        hunted(x, -1103515245, 1, 2, 2, 3, 20, 21);
    }

    private void noSmell() {
        b.says(32, "(all 0: one drawn of them by NODES; none joined: it stays, nothing is drawn); is it at him, he is CAUGHT.");
        HuntedScent x = Check.told("nodes 6;lane 0 1 2 3 4 5 0;water 0;water 1;water 2;water 3;water 4;water 5;");
        hunted(x, 0, 1, 3, 2, 4, 20, 48);
        hunted(x, 65536, 1, 7, 2, 10, 20, 71);
        hunted(x, -1103515245, 1, 5, 2, 8, 20, 78);
    }

    private void itsOwn() {
        b.says(32, "A SEASON by a seed:");
        HuntedScent x = Check.told("lane 0 1 2 3 4 0;rest;start 0;smelt 0 4 9;");
        int due = x.season(7, 20, 1);
        x.fox(2);
        x.go(3);
        x.start(4);
        x.forget(0);
        b.due("by the same seed the same, wherever the fox is", x.season(7, 20, 1), due);
        b.due("where he stays", x.now(0), 3);
        b.due("his moves", x.now(1), 1);
        b.due("his smells", x.now(3), 17);
    }
}
