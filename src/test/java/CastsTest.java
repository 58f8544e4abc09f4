/** Promises 24 to 26: casts, need, left. */
public final class CastsTest {
    private static final Check CHECK = new Check("casts");
    private static final int NONE = HuntedScent.NONE, BAD = HuntedScent.BAD;

    public static void main(String[] args) {
        wrongNumbers();
        noLanes();
        rowOfFive();
        ring();
        needs();
        lefts();
        CHECK.done();
    }

    private static void wrongNumbers() {
        HuntedScent x = Check.told("lane 0 1 2;");
        int[][] bad = {{0, 1, 0}, {-1, 1, 0}, {6, 1, 0}, {1, 0, 0}, {1, 32, 0}, {1, -1, 0}, {1, 1, -1}, {1, 1, 1}, {1, 1, 9},
            {1, 1, 1034}, {1, 1, Integer.MIN_VALUE}, {1, 1, Integer.MAX_VALUE}};
        for (int[] b : bad) {
            CHECK.due("casts " + b[0] + " " + b[1] + " " + b[2], x.casts(b[0], b[1], b[2]), BAD);
        }
        CHECK.due("turn 1023", x.casts(1, 1, 1033), NONE);
    }

    private static void noLanes() {
        HuntedScent x = new HuntedScent();
        CHECK.due("he can not move: five casts", x.casts(1, 31, 0), 5);
        for (int t = 0; t < 5; t++) {
            CHECK.due("cast " + t, x.casts(1, 31, 10 + t), 1 << t);
        }
        CHECK.due("not so many", x.casts(1, 31, 15), NONE);
        CHECK.due("two hounds", x.casts(2, 31, 0), 3);
        CHECK.due("the first by bits", x.casts(2, 31, 10), 3);
        CHECK.due("the first by bits", x.casts(2, 31, 11), 5);
        CHECK.due("the first by bits", x.casts(2, 31, 12), 24);
        CHECK.due("on two nodes", x.casts(2, 20, 10), 20);
        CHECK.due("more hounds than some", x.casts(3, 20, 10), 21);
        Check.type(x, "nodes 2;lane 0 1;");
        x.text();
        CHECK.due("all nodes, if there are no more", x.casts(5, 3, 10), 3);
        CHECK.due("all nodes, if there are no more", x.casts(2, 1, 10), 3);
        CHECK.due("one turn", x.casts(5, 3, 0), 1);
    }

    /** One hound finds a fox who has to move in a row of five. */
    private static void rowOfFive() {
        HuntedScent x = Check.told("lane 0 1 2 3 4;");
        CHECK.due("six turns", x.casts(1, 31, 0), 6);
        int[] first = {2, 4, 8, 2, 4, 8};
        for (int t = 0; t < 6; t++) {
            CHECK.due("cast " + t, x.casts(1, 31, 10 + t), first[t]);
        }
        CHECK.due("not so many", x.casts(1, 31, 16), NONE);
        CHECK.due("he is in 1 or 3", x.casts(1, 10, 0), 3);
        CHECK.due("he is in 1 or 3", x.casts(1, 10, 10), 2);
        Check.type(x, "rest;lane 0 1 2 3 4;");
        x.text();
        CHECK.due("if he may rest, never", x.casts(1, 31, 0), NONE);
        CHECK.due("no cast either", x.casts(1, 31, 10), NONE);
        CHECK.due("but at once, where he is", x.casts(1, 8, 10), 8);
        CHECK.due("two hounds", x.casts(2, 31, 0), 4);
    }

    private static void ring() {
        HuntedScent x = Check.told("nodes 4;lane 0 1 2 3 0;");
        CHECK.due("one hound", x.casts(1, 15, 0), NONE);
        CHECK.due("two hounds", x.casts(2, 15, 0), 2);
        CHECK.due("0 and 2", x.casts(2, 15, 10), 5);
        CHECK.due("and again", x.casts(2, 15, 11), 5);
        CHECK.due("need", x.need(), 2);
        x.join(0, 1, false);
        CHECK.due("without a lane", x.casts(1, 15, 0), 4);
        CHECK.due("need", x.need(), 1);
    }

    private static void needs() {
        HuntedScent x = Check.told("nodes 10;rest;");
        CHECK.due("they rest", x.need(), 1);
        for (int a = 0; a < 10; a++) {
            for (int b = 0; b < a; b++) {
                x.join(a, b, true);
            }
        }
        CHECK.due("all are joined", x.need(), NONE);
        HuntedScent y = Check.told("nodes 6;rest;");
        for (int a = 0; a < 6; a++) {
            for (int b = 0; b < a; b++) {
                y.join(a, b, true);
            }
        }
        CHECK.due("all six are joined", y.need(), NONE);
        HuntedScent z = Check.told("lane 0 1 2 3 4 0 2 4 1 3 0;rest;");
        CHECK.due("all five are joined", z.need(), 5);
    }

    private static void lefts() {
        HuntedScent x = Check.told("lane 0 1 2 3;");
        CHECK.due("a move later", x.left(15, 2), 2 + 4 + 8);
        CHECK.due("who can not move stays", x.left(16, 0), 16);
        CHECK.due("he is found", x.left(3, 7), 0);
        CHECK.due("he was nowhere", x.left(0, 0), 0);
        CHECK.due("casts of all", x.left(31, 31), 0);
        int[][] bad = {{32, 0}, {0, 32}, {-1, 0}, {0, -1}, {Integer.MIN_VALUE, 0}};
        for (int[] b : bad) {
            CHECK.due("left " + b[0] + " " + b[1], x.left(b[0], b[1]), BAD);
        }
        Check.type(x, "rest;lane 0 1 2 3;");
        x.text();
        CHECK.due("with rests", x.left(9, 8), 3);
    }
}
