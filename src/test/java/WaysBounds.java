/** Boundary cases of what was smelt and of the ways that fit: promises 15 to 21. */
final class WaysBounds {
    /** From 0 to 1 and back and so on: what is smelt behind each turn on 0, and on 1. */
    private static final int[][] SMELLS = {{9, 8, 16, 15, 18, 17}, {0, 9, 8, 16, 15, 18}};
    private static final String FORTH_AND_BACK = "nodes 2;lane 0 1;start 0;";

    private final Bounds b;

    private WaysBounds(Bounds b) {
        this.b = b;
    }

    static void all(Bounds b) {
        WaysBounds t = new WaysBounds(b);
        t.smelts();
        t.forgets();
        t.manyWays();
        t.manyThatFit();
        t.anotherNet();
        t.fits();
        t.wrongTurns();
        t.canBe();
        t.sureOf();
        t.firstWay();
        t.cannots();
    }

    private void smelts() {
        b.says(15, "SMELT: one more: how many there are.");
        HuntedScent x = new HuntedScent();
        for (int i = 1; i <= 10; i++) {
            b.due("smelt " + i, x.smelt(0, 0, 9), i);
            b.due("there are", x.count(0), i);
        }
        b.says(15, "BAD; FULL.");
        for (int i = 0; i < 2; i++) {
            b.due("the 11th", x.smelt(0, 0, 9), Bounds.FULL);
            b.due("the 11th, of a turn that is none", x.smelt(6, 0, 9), Bounds.BAD);
            b.due("the 11th, on a node that is none", x.smelt(0, 5, 9), Bounds.BAD);
            b.due("the 11th, too strong", x.smelt(0, 0, 19), Bounds.BAD);
            b.due("there are ten", x.count(0), 10);
        }
        x.forget(9);
        b.due("the 10th again", x.smelt(0, 0, 9), 10);

        b.says(15, "SMELT (10): a TURN (0 to 5), a NODE, how strong.");
        int[] sizes = {2, 5, 10};
        for (int n : sizes) {
            HuntedScent y = Check.told("nodes " + n + ";");
            for (int turn : Bounds.beyond(0, 5)) {
                b.due("smelt(" + turn + ", 0, 0)", y.smelt(turn, 0, 0), Bounds.BAD);
            }
            for (int i : Bounds.noNodes(n)) {
                b.due("smelt(0, " + i + ", 0) of " + n, y.smelt(0, i, 0), Bounds.BAD);
            }
            for (int strong : Bounds.beyond(0, 18)) {
                b.due("smelt(0, 0, " + strong + ")", y.smelt(0, 0, strong), Bounds.BAD);
            }
            b.due("none came", y.count(0), 0);
            b.due("the least", y.smelt(0, 0, 0), 1);
            b.due("the greatest", y.smelt(5, n - 1, 18), 2);
        }
    }

    private void forgets() {
        b.says(16, "SMELT are the first n alone: how many there were.");
        HuntedScent x = new HuntedScent();
        b.due("of none", x.forget(0), 0);
        for (int i = 0; i < 10; i++) {
            x.smelt(0, i % 5, 9);
        }
        b.due("all ten stay", x.forget(10), 10);
        b.due("nine", x.forget(9), 10);
        b.due("one", x.forget(1), 9);
        b.due("the first", x.sure(0, 0), 0);
        b.due("none", x.forget(0), 1);
        b.due("none is left", x.count(0), 0);
        b.due("all fits", x.ways(0), 5);
        b.due("of none", x.forget(0), 0);
        b.says(16, "BAD (n above that, too).");
        for (int had = 0; had <= 10; had++) {
            HuntedScent y = new HuntedScent();
            for (int i = 0; i < had; i++) {
                y.smelt(0, 0, 9);
            }
            for (int n : Bounds.beyond(0, had)) {
                b.due("forget(" + n + ") of " + had, y.forget(n), Bounds.BAD);
            }
            b.due("they stay", y.forget(had), had);
        }
    }

    private void counted(String net, HuntedScent x, int atFirst, int times) {
        for (int n = 0, due = atFirst; n <= 5; n++, due *= times) {
            b.due(net + ": ways(" + n + ")", x.ways(n), due);
        }
    }

    private void manyWays() {
        b.says(17, "A WAY of n TURNS (0 to 5): he begins at START (on any NODE, if none is told) in TURN 0,");
        counted("ten nodes, all joined, rest", Bounds.allJoined(10, "rest;"), 10, 10);
        counted("ten nodes, all joined, rest, start 9", Bounds.allJoined(10, "rest;start 9;"), 1, 10);
        counted("two nodes", Check.told("nodes 2;lane 0 1;"), 2, 1);
        counted("two nodes, start 1", Check.told("nodes 2;lane 0 1;start 1;"), 1, 1);
        counted("two nodes, start 0", Check.told("nodes 2;lane 0 1;start 0;"), 1, 1);
        b.says(17, "and makes a MOVE in each TURN 1 to n.");
        counted("ten nodes, all joined", Bounds.allJoined(10, ""), 10, 9);
        counted("no lanes, rest", Check.told("rest;nodes 10;"), 10, 1);
        counted("no lanes, rest, start 0", Check.told("rest;start 0;"), 1, 1);
        counted("no lanes: no move", Check.told("nodes 10;"), 10, 0);
        counted("no lanes, start 4: no move", Check.told("start 4;"), 1, 0);
        counted("a start without a lane", Check.told("lane 0 1;start 2;"), 1, 0);
    }

    private void fits() {
        b.says(17, "It FITS, if behind each TURN up to n what was SMELT then is so.");
        for (int node = 0; node < 2; node++) {
            for (int t = 0; t <= 5; t++) {
                HuntedScent x = Check.told(FORTH_AND_BACK);
                for (int strong = 0; strong <= 18; strong++) {
                    x.smelt(t, node, strong);
                    for (int n = 0; n <= 5; n++) {
                        boolean is = t > n || strong == SMELLS[node][t];
                        b.due("ways(" + n + ") by smelt(" + t + ", " + node + ", " + strong + ")", x.ways(n), is ? 1 : 0);
                    }
                    x.forget(0);
                }
            }
        }
        HuntedScent y = Check.told(FORTH_AND_BACK + "water 0;water 1;");
        for (int t = 0; t <= 5; t++) {
            y.smelt(t, t % 2, 0);
        }
        b.due("0 on water always", y.ways(5), 1);
        y.smelt(5, 0, 1);
        b.due("and no more", y.ways(5), 0);
        b.due("of fewer turns nothing is known of that", y.ways(4), 1);

        b.says(17, "WAYS of n TURNS (0 to 5) that FIT.");
        HuntedScent z = Check.told("nodes 10;rest;");
        z.smelt(0, 9, 9);
        for (int i = 0; i < 8; i++) {
            z.smelt(0, i, 0);
        }
        z.smelt(5, 9, 18);
        counted("all ten fit one way", z, 1, 1);
        z.forget(9);
        z.smelt(5, 9, 17);
        b.due("the tenth does not, in turn 5", z.ways(5), 0);
        b.due("ahead of it nine do", z.ways(4), 1);
    }

    /** He was smelt in the last turns alone, so what he did ahead of them is open. */
    private void manyThatFit() {
        b.says(17, "WAYS of n TURNS (0 to 5) that FIT.");
        HuntedScent x = Bounds.allJoined(10, "start 9;");
        x.smelt(5, 0, 0);
        b.due("never in 0", x.ways(5), 8 * 8 * 8 * 8 * 8);
        x.smelt(5, 1, 9);
        b.due("and in 1 at last, for the first time", x.ways(5), 7 * 7 * 7 * 7);
        x.smelt(4, 2, 9);
        b.due("and in 2 ahead of that, for the first time", x.ways(5), 6 * 6 * 6);
        int[] first = {9, 3, 4, 3, 2, 1};
        for (int t = 0; t <= 5; t++) {
            b.due("the first of them: turn " + t, x.way(5, t), first[t]);
        }
        b.due("where he can be in turn 1", x.can(5, 1), 1023 & ~7 & ~512);
        b.due("where he can be in turn 2", x.can(5, 2), 1023 & ~7);
        b.due("of 4 turns", x.ways(4), 8 * 8 * 8);
        b.due("of 3 turns", x.ways(3), 9 * 9 * 9);
        b.due("of 5 turns again", x.can(5, 5), 2);
        b.due("all that was smelt can be", x.cannot(), Bounds.NONE);
        b.due("which was another question", x.ways(5), 6 * 6 * 6);
    }

    /** What was found for one net, one start, one smell does not stand for the next one. */
    private void anotherNet() {
        b.says(18, "NODES where he can be in TURN t by WAYS of n TURNS that FIT (bits).");
        HuntedScent x = Bounds.row(5, "start 0;");
        b.due("from 0", x.can(5, 5), 2 + 8);
        x.keep(0);
        x.start(4);
        b.due("from 4", x.can(5, 5), 2 + 8);
        b.due("turn 0", x.can(5, 0), 16);
        x.smelt(5, 3, 9);
        b.due("smelt in turn 5", x.can(5, 5), 0);
        x.forget(0);
        b.due("forgotten", x.can(5, 5), 2 + 8);
        x.join(0, 1, false);
        x.start(0);
        b.due("a start without a lane", x.can(5, 0), 0);
        b.due("nor a turn", x.can(5, 5), 0);
        x.back(0);
        b.due("as it was", x.can(5, 5), 2 + 8);
        x.smelt(0, 0, 0);
        b.due("it can not be", x.cannot(), 0);
        b.due("so there is none", x.ways(5), 0);
        x.forget(0);
        x.smelt(1, 1, 9);
        b.due("it can be", x.cannot(), Bounds.NONE);
        b.due("all that can be so", x.can(5, 5), 2 + 8);
        x.text();
        b.due("no lanes, another text", x.can(5, 5), 0);
    }

    private void wrongTurns() {
        b.says(17, "BAD.");
        HuntedScent x = Check.told("rest;lane 0 1;");
        for (int n : Bounds.beyond(0, 5)) {
            b.due("ways(" + n + ")", x.ways(n), Bounds.BAD);
            b.due("ways(" + n + "), no way", new HuntedScent().ways(n), Bounds.BAD);
        }
        for (int promise = 18; promise <= 20; promise++) {
            b.says(promise, "BAD");
            for (int n : Bounds.beyond(0, 5)) {
                b.due("n is " + n, ofTurn(x, promise, n, 0), Bounds.BAD);
                b.due("n and t are " + n, ofTurn(x, promise, n, n), Bounds.BAD);
            }
            for (int n = 0; n <= 5; n++) {
                b.holds("the first of " + n, ofTurn(x, promise, n, 0) >= 0 || promise == 19);
                b.holds("the last of " + n, ofTurn(x, promise, n, n) >= 0 || promise == 19);
                for (int t : Bounds.beyond(0, n)) {
                    b.due("n is " + n + ", t is " + t, ofTurn(x, promise, n, t), Bounds.BAD);
                    b.due("no way: n is " + n + ", t is " + t, ofTurn(new HuntedScent(), promise, n, t), Bounds.BAD);
                }
            }
        }
    }

    private static int ofTurn(HuntedScent x, int promise, int n, int t) {
        return promise == 18 ? x.can(n, t) : promise == 19 ? x.sure(n, t) : x.way(n, t);
    }

    private void canBe() {
        b.says(18, "NODES where he can be in TURN t by WAYS of n TURNS that FIT (bits).");
        HuntedScent all = Bounds.allJoined(10, "rest;");
        HuntedScent one = Check.told(FORTH_AND_BACK);
        HuntedScent last = Check.told("nodes 10;rest;start 9;");
        HuntedScent none = Check.told("lane 0 1;start 2;");
        HuntedScent lone = Check.told("lane 0 1;");
        for (int n = 0; n <= 5; n++) {
            for (int t = 0; t <= n; t++) {
                String told = "can(" + n + ", " + t + ")";
                b.due("all: " + told, all.can(n, t), 1023);
                b.due("one way: " + told, one.can(n, t), 1 << t % 2);
                b.due("node 9: " + told, last.can(n, t), 512);
                b.due("no way: " + told, none.can(n, t), n == 0 ? 4 : 0);
                b.due("nodes without a lane: " + told, lone.can(n, t), n == 0 ? 31 : 3);
            }
        }
        HuntedScent x = Bounds.row(10, "start 0;smelt 4 4 9;");
        b.due("by ways that fit later", x.can(4, 1), 2);
        b.due("by ways that fit later", x.can(5, 3), 8);
        b.due("behind what was smelt", x.can(5, 5), 8 + 32);
        b.due("of ways without it", x.can(3, 3), 2 + 8);
    }

    private void sureOf() {
        b.says(19, "The NODE where he was in TURN t by all WAYS of n TURNS that FIT.");
        HuntedScent one = Check.told(FORTH_AND_BACK);
        HuntedScent last = Check.told("nodes 10;rest;start 9;");
        for (int n = 0; n <= 5; n++) {
            for (int t = 0; t <= n; t++) {
                b.due("sure(" + n + ", " + t + ")", one.sure(n, t), t % 2);
                b.due("sure(" + n + ", " + t + ")", last.sure(n, t), 9);
            }
        }
        b.says(19, "BAD; NONE: there are none, unlike ones.");
        HuntedScent x = Check.told("lane 0 1;start 2;");
        HuntedScent y = Check.told("lane 0 1 2;start 1;");
        for (int n = 1; n <= 5; n++) {
            b.due("no way: sure(" + n + ", 0)", x.sure(n, 0), Bounds.NONE);
            b.due("no way: sure(" + n + ", " + n + ")", x.sure(n, n), Bounds.NONE);
            b.due("unlike: sure(" + n + ", 1)", y.sure(n, 1), Bounds.NONE);
            b.due("alike: sure(" + n + ", 0)", y.sure(n, 0), 1);
        }
        b.due("many ways, but in one node", y.sure(5, 4), 1);
        b.due("no start: unlike", Check.told("nodes 2;lane 0 1;").sure(0, 0), Bounds.NONE);
    }

    private void firstWay() {
        b.says(20, "The NODE of TURN t in the first WAY of n TURNS that FITS (by NODES, one behind another).");
        HuntedScent all = Bounds.allJoined(10, "");
        HuntedScent rest = Bounds.allJoined(10, "rest;start 9;");
        HuntedScent last = Check.told("nodes 10;lane 8 9;");
        for (int n = 1; n <= 5; n++) {
            for (int t = 0; t <= n; t++) {
                String told = "way(" + n + ", " + t + ")";
                b.due("all joined: " + told, all.way(n, t), t % 2);
                b.due("all joined, rest, from 9: " + told, rest.way(n, t), t == 0 ? 9 : 0);
                b.due("the last lane: " + told, last.way(n, t), 8 + t % 2);
            }
        }
        b.due("of no turn", last.way(0, 0), 0);
        HuntedScent x = Check.told("lane 0 1 2 3;lane 0 4;smelt 3 2 9;");
        int[] due = {0, 4, 0, 1};
        b.due("none comes to 2 so", x.ways(3) > 0 ? 1 : 0, 1);
        x.forget(0);
        x.smelt(3, 1, 9);
        for (int t = 0; t <= 3; t++) {
            b.due("once in 1, in turn 3: turn " + t, x.way(3, t), due[t]);
        }
        b.says(20, "BAD; NONE.");
        HuntedScent none = Check.told("lane 0 1;start 2;");
        for (int n = 1; n <= 5; n++) {
            for (int t = 0; t <= n; t++) {
                b.due("no way: way(" + n + ", " + t + ")", none.way(n, t), Bounds.NONE);
            }
        }
        b.due("no turn", none.way(0, 0), 2);
        none.smelt(0, 2, 0);
        b.due("it does not fit", none.way(0, 0), Bounds.NONE);
    }

    private static HuntedScent tenSmelt(int wrong) {
        HuntedScent x = Check.told(FORTH_AND_BACK);
        for (int i = 0; i < 10; i++) {
            int strong = SMELLS[i / 6][i % 6];
            x.smelt(i % 6, i / 6, i == wrong ? strong + 1 : strong);
        }
        return x;
    }

    private void cannots() {
        b.says(21, "The first of SMELT, by order, with which (and those ahead of it, no others) no WAY of 5 TURNS FITS.");
        for (int wrong = 0; wrong < 10; wrong++) {
            if (SMELLS[wrong / 6][wrong % 6] < 18) {
                b.due("the wrong one", tenSmelt(wrong).cannot(), wrong);
            }
        }
        HuntedScent x = Check.told("rest;");
        x.smelt(0, 0, 9);
        x.smelt(0, 1, 9);
        x.smelt(0, 0, 8);
        b.due("the second, by the first", x.cannot(), 1);
        x.forget(0);
        x.smelt(0, 0, 8);
        x.smelt(0, 0, 9);
        b.due("the first alone", x.cannot(), 0);
        x.forget(0);
        x.smelt(5, 0, 18);
        x.smelt(5, 0, 17);
        b.due("of the last turn, too", x.cannot(), 1);
        HuntedScent y = Check.told("lane 0 1;smelt 0 2 9;");
        b.due("he fits, but can not go on for 5 turns", y.cannot(), 0);
        b.due("of no turn there is a way", y.ways(0), 1);

        b.says(21, "NONE: there is none.");
        b.due("ten that can be", tenSmelt(10).cannot(), Bounds.NONE);
        b.due("nothing smelt", Check.told(FORTH_AND_BACK).cannot(), Bounds.NONE);
        b.due("nothing smelt, and no way", new HuntedScent().cannot(), Bounds.NONE);
        HuntedScent z = tenSmelt(9);
        z.forget(9);
        b.due("the wrong one forgotten", z.cannot(), Bounds.NONE);
    }
}
