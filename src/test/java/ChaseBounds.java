/** Boundary cases of chases: promises 27 to 29. */
final class ChaseBounds {
    private static final int[] SIZES = {2, 5, 10};

    private final Bounds b;

    private ChaseBounds(Bounds b) {
        this.b = b;
    }

    static void all(Bounds b) {
        ChaseBounds t = new ChaseBounds(b);
        t.already();
        t.turns();
        t.never();
        t.allPlaces();
        t.anotherNet();
        t.wrongNodes();
        t.movesOfAll();
        t.flees();
        t.fleesForever();
        t.best();
        t.noPair();
    }

    /** Two rings of five, joined node by node: two hounds never take a fox there. */
    private static HuntedScent petersen(String more) {
        return Check.told("nodes 10;lane 0 1 2 3 4 0 5 7 9 6 8 5;lane 1 6;lane 2 7;lane 3 8;lane 4 9;" + more);
    }

    private void already() {
        b.says(27, "A CHASE of a fox on a NODE, hounds on two: TURNS till he is CAUGHT (0: he is already).");
        for (int size : SIZES) {
            HuntedScent x = Bounds.row(size, "");
            HuntedScent none = Check.told("nodes " + size + ";");
            for (int i = 0; i < size; i++) {
                b.due("a hound on his node", x.caught(i, i, 0), 0);
                b.due("the other one", x.caught(i, size - 1, i), 0);
                b.due("both", x.caught(i, i, i), 0);
                b.due("without a lane", none.caught(i, i, (i + 1) % size), 0);
            }
        }
    }

    private void turns() {
        b.says(27, "A CHASE: the fox, two hounds (on one NODE, too) are seen by all.");
        HuntedScent rest = Bounds.row(10, "rest;");
        for (int i = 1; i < 10; i++) {
            b.due("a row: the fox on 0, both on " + i, rest.caught(0, i, i), i);
            b.due("a row: the fox on 9, both on " + (9 - i), rest.caught(9, 9 - i, 9 - i), i);
            b.due("a row: one on " + i + ", one on 9", rest.caught(0, i, 9), i);
            b.due("as by", rest.caught(0, 9, i), i);
            b.due("both on 9, the fox on " + (i - 1) + " comes to 0 in time", rest.caught(i - 1, 9, 9), 9);
            b.due("both on 0, the fox on " + i + " comes to 9 in time", rest.caught(i, 0, 0), 9);
        }
        b.due("between two, who come on from both sides", rest.caught(4, 0, 9), 4);
        b.due("water, holes and start are not asked", Bounds.row(5, "rest;water 1;hole 0;start 3;").caught(0, 2, 2), 2);
    }

    private void never() {
        b.says(27, "BAD; NONE: he never is.");
        HuntedScent x = petersen("rest;");
        b.due("two can not", x.caught(0, 1, 4), Bounds.NONE);
        b.due("not joined", Check.told("nodes 10;lane 0 1;").caught(9, 0, 1), Bounds.NONE);
        b.due("no lanes", Check.told("nodes 3;").caught(0, 1, 2), Bounds.NONE);
        b.due("a new object", new HuntedScent().caught(0, 1, 2), Bounds.NONE);
        b.due("a ring of five, both on one node", Check.told("lane 0 1 2 3 4 0;rest;").caught(0, 2, 2) > 0 ? 1 : 0, 1);
    }

    /** All places of a fox and two hounds, the lesser hound first, as another program played them out. */
    private void played(String net, String caught, String flees) {
        HuntedScent x = Check.told(net);
        int nodes = x.rule(0), at = 0;
        for (int fox = 0; fox < nodes; fox++) {
            for (int one = 0; one < nodes; one++) {
                for (int other = one; other < nodes; other++) {
                    String told = net + " " + fox + " " + one + " " + other;
                    b.due("caught " + told, x.caught(fox, one, other), caught.charAt(at) - '0');
                    b.due("caught, the hounds in the other order " + told, x.caught(fox, other, one), caught.charAt(at) - '0');
                    b.due("flees " + told, x.flees(fox, other, one), flees.charAt(at) == '-' ? Bounds.STATE : flees.charAt(at) - '0');
                    at++;
                }
            }
        }
    }

    private void allPlaces() {
        b.says(27, "TURNS till he is CAUGHT (0: he is already).");
        played("lane 0 1 2 3 4 0;rest;",
            "000002211221222201120000221222220122011000222221022201201002221102210220200",
            "-----44000000112-002----00001123-123-11---111232-234-24-2--23300-340-00-0--");
        played("lane 3 0 4 1;lane 4 2;",
            "000002212212312101110000111311110111011000311111013301301001222203320320200",
            "-----33333334334-444----44444444-444-44---444000-000-00-0--01211-002-01-1--");
        played("nodes 6;lane 0 1 2 3 4 5 0;lane 1 4;",
            "000000222112211312113302122000003221221222220112201120000312113312022110113011000222221102222022201302003312110111103220220200",
            "------5551155111111112-4022-----000000002233-1133-113----111111224-2222-224-22---2223311-3355-355-11-1--140400-0000-000-00-0--");
        played("nodes 6;rest;lane 0 1 2 3 0 4 5 2;lane 1 5;",
            "000000222222212221222201221000002112221212210221201220000221222211021210222012000222211201222012202201002211220222102210220200",
            "------3443304001101302-0520-----000011010021-5213-133----111133200-2030-330-00---2305005-0444-004-04-0--021152-4441-441-11-1--");
    }

    /** What was played out for one net does not stand for the next one. */
    private void anotherNet() {
        b.says(27, "TURNS till he is CAUGHT");
        HuntedScent x = Bounds.row(5, "rest;");
        b.due("a row", x.caught(0, 4, 4), 4);
        x.keep(0);
        x.join(0, 4, true);
        b.due("a ring", x.caught(0, 4, 4), 2);
        x.back(0);
        b.due("a row again", x.caught(0, 4, 4), 4);
        x.join(2, 3, false);
        b.due("a row in two parts", x.caught(0, 4, 4), Bounds.NONE);
        x.text();
        b.due("no lanes", x.caught(1, 0, 0), Bounds.NONE);
        x.join(0, 1, true);
        b.due("one", x.caught(1, 0, 0), 1);
    }

    private void wrongNodes() {
        for (int promise = 27; promise <= 28; promise++) {
            b.says(promise, "BAD;");
            for (int size : SIZES) {
                HuntedScent x = Bounds.row(size, "rest;");
                b.holds("the last node", ofChase(x, promise, size - 1, 0, 0) >= 0);
                for (int i : Bounds.noNodes(size)) {
                    b.due("the fox on " + i + " of " + size, ofChase(x, promise, i, 0, 0), Bounds.BAD);
                    b.due("a hound on " + i + " of " + size, ofChase(x, promise, 0, i, 1), Bounds.BAD);
                    b.due("the other on " + i + " of " + size, ofChase(x, promise, 0, 1, i), Bounds.BAD);
                    b.due("caught already, the other on " + i, ofChase(x, promise, 0, 0, i), Bounds.BAD);
                    b.due("caught already, one on " + i, ofChase(x, promise, 1, i, 1), Bounds.BAD);
                    b.due("all on " + i + " of " + size, ofChase(x, promise, i, i, i), Bounds.BAD);
                }
            }
        }
    }

    private static int ofChase(HuntedScent x, int promise, int fox, int one, int other) {
        return promise == 27 ? x.caught(fox, one, other) : x.flees(fox, one, other);
    }

    private void movesOfAll() {
        b.says(27, "In each TURN he makes a MOVE (stays, if he can not); has he come to a hound, he is CAUGHT;");
        HuntedScent x = Check.told("nodes 4;lane 0 1 2;");
        b.due("he has to come to the hound", x.caught(0, 1, 1), 1);
        b.due("he has to come to 1", x.caught(0, 2, 2), 1);
        b.due("he can not move, they can not come", x.caught(3, 0, 1), Bounds.NONE);
        HuntedScent rest = Check.told("nodes 4;lane 0 1 2;rest;");
        b.due("he may stay", rest.caught(0, 2, 2), 2);
        b.due("beside him", rest.caught(0, 1, 1), 1);
        b.says(27, "else each hound goes to a NODE that is joined, or stays; is one on his NODE, he is CAUGHT.");
        HuntedScent ring = Check.told("nodes 6;lane 0 1 2 3 4 5 0;");
        b.due("one stays, though the fox may not", ring.caught(0, 2, 4), 1);
        HuntedScent tail = Check.told("lane 0 1 2 0;lane 2 3 4;");
        b.due("he has to come to 3, they on 2 go there", tail.caught(4, 2, 2), 1);
        b.due("he has to come to the hound", tail.caught(4, 3, 3), 1);
        b.due("to 3, to 4, to 3", tail.caught(4, 0, 0), 3);
        b.says(27, "He puts it off as long as he can, they make it soon.");
        HuntedScent six = Check.told("nodes 6;lane 0 1 2 3 4 5 0;rest;");
        b.due("round the ring", six.caught(0, 3, 3), 3);
        b.due("between them", six.caught(0, 2, 4), 2);
        b.due("away from them", six.caught(0, 1, 1), 3);
    }

    private void flees() {
        b.says(28, "STATE: he is CAUGHT already.");
        for (int size : SIZES) {
            HuntedScent x = Bounds.row(size, "rest;");
            for (int i = 0; i < size; i++) {
                b.due("one is on " + i, x.flees(i, i, 0), Bounds.STATE);
                b.due("the other is on " + i, x.flees(i, 0, i), Bounds.STATE);
                b.due("both are on " + i, x.flees(i, i, i), Bounds.STATE);
            }
        }
        b.says(28, "His best MOVE, of several the least NODE (the NODE where he is, if he can not move).");
        HuntedScent star = Bounds.star(10, 9, "rest;");
        b.due("any leaf but those of hounds is as good", star.flees(9, 0, 1), 2);
        b.due("hounds on 7 and 8", star.flees(9, 7, 8), 0);
        b.due("a leaf, the hounds beside it: as soon caught there", star.flees(5, 9, 9), 5);
        HuntedScent row = Bounds.row(10, "rest;");
        b.due("he will be in 9 in time: the least", row.flees(8, 0, 0), 7);
        b.due("he will be in 9 in time: the least", row.flees(9, 0, 0), 8);
        b.due("there is just time", row.flees(9, 7, 7), 9);
        b.due("node 0", row.flees(1, 3, 3), 0);
        HuntedScent none = Check.told("nodes 10;lane 0 1;");
        b.due("he can not move", none.flees(9, 0, 1), 9);
        b.due("he can not move, hounds as little", none.flees(5, 8, 9), 5);
        b.due("he has to move, though to the hound", none.flees(0, 1, 1), 1);
        b.due("and back", none.flees(1, 0, 5), 0);
    }

    private void fleesForever() {
        b.says(28, "(Never CAUGHT: the least NODE by which it stays so.)");
        HuntedScent x = petersen("rest;");
        b.due("both beside him: the third", x.flees(0, 1, 4), 5);
        b.due("none beside him: he may stay", x.flees(0, 2, 3), 0);
        b.due("from 9 not to 4, beside a hound, but to 6", x.flees(9, 0, 0), 6);
        b.due("no rest: not where a hound comes", petersen("").flees(0, 2, 3), 5);
        HuntedScent apart = Check.told("lane 0 1;lane 2 3 4 2;");
        b.due("hounds who can not come", apart.flees(3, 0, 1), 2);
        b.due("who can not stay", apart.flees(2, 0, 0), 3);
    }

    private void best() {
        b.says(29, "NODES for two hounds from which any fox is CAUGHT: the pair (one NODE twice, too) with the fewest TURNS at the worst,");
        HuntedScent star = Bounds.star(10, 0, "rest;");
        b.due("0 twice", star.best(0), 0);
        b.due("one turn", star.best(1), 1);
        HuntedScent two = Check.told("nodes 2;");
        b.due("both nodes", two.best(0), 1);
        b.due("no turn", two.best(1), 0);
        b.says(29, "of several the first by the lesser NODE, then the other one (what 0: 10 times that and this), those TURNS (1).");
        HuntedScent last = Bounds.star(10, 9, "rest;");
        b.due("0 and 9", last.best(0), 9);
        b.due("one turn", last.best(1), 1);
        HuntedScent row = Bounds.row(10, "rest;");
        b.due("a row of ten: two from each end", row.best(0), 27);
        b.due("two turns", row.best(1), 2);
        HuntedScent parts = Check.told("nodes 10;rest;lane 0 8 1;lane 2 8 3;lane 4 9 5;lane 6 9 7;");
        b.due("8 and 9", parts.best(0), 89);
        b.due("one turn", parts.best(1), 1);
    }

    private void noPair() {
        b.says(29, "BAD; NONE: there is none.");
        HuntedScent none = Check.told("nodes 3;");
        b.due("three parts: no pair", none.best(0), Bounds.NONE);
        b.due("three parts: no turns", none.best(1), Bounds.NONE);
        HuntedScent never = petersen("rest;");
        b.due("two can not: no pair", never.best(0), Bounds.NONE);
        b.due("two can not: no turns", never.best(1), Bounds.NONE);
        for (int what : Bounds.beyond(0, 1)) {
            b.due("best(" + what + ")", Bounds.row(5, "").best(what), Bounds.BAD);
            b.due("no pair: best(" + what + ")", none.best(what), Bounds.BAD);
        }
    }
}
