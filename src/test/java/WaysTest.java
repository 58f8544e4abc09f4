/** Promises 15 to 21: smelt, forget, ways, can, sure, way, cannot. */
public final class WaysTest {
    private static final Check CHECK = new Check("ways");
    private static final int NONE = HuntedScent.NONE, BAD = HuntedScent.BAD, FULL = HuntedScent.FULL;

    public static void main(String[] args) {
        notes();
        wrongNumbers();
        allWays();
        fittingWays();
        turnsThatAreNotCounted();
        water();
        whatChanges();
        lastTurn();
        impossible();
        CHECK.done();
    }

    private static void notes() {
        HuntedScent x = new HuntedScent();
        int[][] bad = {{-1, 0, 0}, {6, 0, 0}, {0, -1, 0}, {0, 5, 0}, {0, 0, -1}, {0, 0, 19}};
        for (int[] b : bad) {
            CHECK.due("smelt " + b[0] + " " + b[1] + " " + b[2], x.smelt(b[0], b[1], b[2]), BAD);
        }
        for (int i = 1; i <= 10; i++) {
            CHECK.due("smelt " + i, x.smelt(i % 6, 4, 18), i);
        }
        CHECK.due("the 11th", x.smelt(0, 0, 0), FULL);
        CHECK.due("of wrong numbers", x.smelt(0, 0, 19), BAD);
        CHECK.due("ten", x.count(0), 10);
        CHECK.due("forget(-1)", x.forget(-1), BAD);
        CHECK.due("forget(11)", x.forget(11), BAD);
        CHECK.due("forget none", x.forget(10), 10);
        CHECK.due("forget some", x.forget(3), 10);
        CHECK.due("too many", x.forget(4), BAD);
        CHECK.due("forget all", x.forget(0), 3);
        CHECK.due("nothing left", x.forget(0), 0);
        CHECK.due("the first again", x.smelt(0, 0, 9), 1);
    }

    private static void wrongNumbers() {
        HuntedScent x = Check.told("lane 0 1;");
        int[] turns = {-1, 6, Integer.MIN_VALUE, Integer.MAX_VALUE};
        for (int n : turns) {
            CHECK.due("ways " + n, x.ways(n), BAD);
            CHECK.due("can " + n, x.can(n, 0), BAD);
            CHECK.due("sure " + n, x.sure(n, 0), BAD);
            CHECK.due("way " + n, x.way(n, 0), BAD);
            CHECK.due("can 5 " + n, x.can(5, n), BAD);
            CHECK.due("sure 5 " + n, x.sure(5, n), BAD);
            CHECK.due("way 5 " + n, x.way(5, n), BAD);
        }
        CHECK.due("a turn behind the last", x.can(2, 3), BAD);
        CHECK.due("a turn behind the last", x.sure(0, 1), BAD);
        CHECK.due("a turn behind the last", x.way(4, 5), BAD);
    }

    private static void allWays() {
        HuntedScent x = Check.told("nodes 4;lane 0 1 2 3;");
        int[] due = {4, 6, 10, 16, 26, 42};
        for (int n = 0; n <= 5; n++) {
            CHECK.due("ways of a row of four: " + n, x.ways(n), due[n]);
        }
        CHECK.due("anywhere", x.can(5, 0), 15);
        CHECK.due("never sure", x.sure(5, 0), NONE);
        CHECK.due("the first", x.way(5, 0), 0);
        CHECK.due("the first", x.way(5, 5), 1);
        x.start(0);
        int[] from0 = {1, 1, 2, 3, 5, 8};
        for (int n = 0; n <= 5; n++) {
            CHECK.due("ways from its end: " + n, x.ways(n), from0[n]);
        }
        CHECK.due("can", x.can(5, 3), 10);
        CHECK.due("sure", x.sure(5, 1), 1);
        CHECK.due("sure", x.sure(5, 2), NONE);
        HuntedScent y = Check.told("nodes 10;rest;start 4;");
        CHECK.due("he rests", y.ways(5), 1);
        CHECK.due("where he is", y.sure(5, 5), 4);
        y.start(NONE);
        CHECK.due("on any node", y.ways(5), 10);
        HuntedScent z = new HuntedScent();
        CHECK.due("no move", z.ways(1), 0);
        CHECK.due("no move, no node", z.can(1, 0), 0);
        CHECK.due("no turn", z.ways(0), 5);
        z.join(3, 4, true);
        CHECK.due("but on a lane", z.can(1, 0), 24);
        CHECK.due("forth and back", z.way(5, 5), 4);
        HuntedScent all = Check.told("nodes 10;rest;");
        for (int a = 0; a < 10; a++) {
            for (int b = 0; b < a; b++) {
                all.join(a, b, true);
            }
        }
        CHECK.due("a million", all.ways(5), 1000000);
    }

    private static void fittingWays() {
        HuntedScent x = Check.told("nodes 4;lane 0 1 2 3;");
        x.smelt(0, 1, 9);
        CHECK.due("he began in 1", x.sure(5, 0), 1);
        CHECK.due("ways", x.ways(5), 13);
        x.smelt(2, 1, 16);
        CHECK.due("and is back", x.sure(3, 2), 1);
        CHECK.due("by 0 or 2", x.can(3, 1), 5);
        CHECK.due("four ways", x.ways(3), 4);
        CHECK.due("the first, turn 1", x.way(3, 1), 0);
        CHECK.due("the first, turn 3", x.way(3, 3), 0);
        x.smelt(2, 2, 8);
        CHECK.due("by 2", x.sure(3, 1), 2);
        CHECK.due("two ways", x.ways(3), 2);
        CHECK.due("the first, turn 0", x.way(3, 0), 1);
        CHECK.due("the first, turn 3", x.way(3, 3), 0);
        x.smelt(3, 0, 0);
        CHECK.due("not in 0", x.sure(3, 3), 2);
        x.smelt(3, 2, 0);
        CHECK.due("none", x.ways(3), 0);
        CHECK.due("none", x.can(3, 0), 0);
        CHECK.due("none", x.sure(3, 0), NONE);
        CHECK.due("none", x.way(3, 0), NONE);
        HuntedScent w = Check.told("lane 3 4;smelt 2 4 9;");
        CHECK.due("none: he came twice or had left", w.ways(2), 0);
        w.forget(0);
        w.smelt(2, 4, 16);
        CHECK.due("the first begins in", w.way(2, 0), 4);
        CHECK.due("and goes by", w.way(2, 1), 3);
        HuntedScent y = Check.told("rest;lane 0 1;start 0;smelt 2 0 18;");
        CHECK.due("18 is the most", y.ways(2), 1);
        CHECK.due("he stayed", y.way(2, 2), 0);
        CHECK.due("behind that, anything", y.ways(3), 2);
    }

    private static void turnsThatAreNotCounted() {
        HuntedScent x = Check.told("lane 0 1;smelt 3 0 18;");
        CHECK.due("turn 3 can not be", x.ways(3), 0);
        CHECK.due("a way of 2 turns knows nothing of it", x.ways(2), 2);
        CHECK.due("of 4 turns it does", x.ways(4), 0);
    }

    private static void water() {
        HuntedScent x = Check.told("lane 0 1 2;water 1;smelt 1 1 0;");
        CHECK.due("0 on water is always so", x.ways(1), 4);
        x.smelt(1, 1, 9);
        CHECK.due("no other is", x.ways(1), 0);
        x.forget(0);
        x.smelt(0, 1, 0);
        CHECK.due("in turn 0, too", x.can(1, 0), 7);
        x.smelt(0, 0, 0);
        x.smelt(0, 2, 0);
        CHECK.due("in water or where no smell was asked", x.can(1, 0), 2);
        CHECK.due("where there is no lane, too", x.can(0, 0), 2 + 8 + 16);
    }

    /** What was found for one net does not stand for another one. */
    private static void whatChanges() {
        HuntedScent x = Check.told("nodes 3;lane 0 1;");
        CHECK.due("ways", x.ways(2), 2);
        x.join(1, 2, true);
        CHECK.due("with a lane more", x.ways(2), 6);
        x.keep(0);
        x.start(0);
        CHECK.due("from 0", x.ways(2), 2);
        x.smelt(2, 0, 16);
        CHECK.due("and back", x.ways(2), 1);
        x.forget(0);
        CHECK.due("or not", x.ways(2), 2);
        x.back(0);
        CHECK.due("as it was", x.ways(2), 6);
        Check.type(x, "nodes 3;rest;smelt 0 2 9;");
        x.text();
        CHECK.due("by a text", x.ways(2), 1);
        x.sheet(0, 0, 3);
        x.read(0, 0, 0, 1);
        CHECK.due("by a sheet that is read", x.ways(2), 1);
        x.lay(0, 2, 9);
        x.read(0, 0, 0, 1);
        CHECK.due("which can not be", x.ways(2), 0);
        CHECK.due("another question between", x.cannot(), 2);
        x.forget(2);
        x.cannot();
        CHECK.due("ways of its own again", x.ways(2), 1);
    }

    /** The last turn of all is no other than the ones ahead of it. */
    private static void lastTurn() {
        HuntedScent x = Check.told("lane 0 1 2 3 4;start 2;");
        x.smelt(5, 1, 9);
        CHECK.due("once, at last", x.can(5, 5), 2);
        x.forget(0);
        x.smelt(5, 3, 9);
        CHECK.due("on the other side", x.can(5, 5), 8);
        CHECK.due("out of 2", x.can(5, 4), 4);
        CHECK.due("one of two", x.ways(5), 2);
        CHECK.due("the first", x.way(5, 1), 1);
    }

    private static void impossible() {
        HuntedScent x = Check.told("lane 0 1 2;start 0;");
        CHECK.due("nothing smelt", x.cannot(), NONE);
        x.smelt(1, 1, 9);
        x.smelt(5, 1, 18);
        CHECK.due("it can be", x.cannot(), NONE);
        x.smelt(2, 2, 9);
        x.smelt(2, 0, 16);
        x.smelt(0, 0, 0);
        CHECK.due("one and the other can not", x.cannot(), 3);
        x.forget(1);
        x.smelt(2, 2, 9);
        x.smelt(2, 0, 16);
        x.smelt(0, 0, 0);
        CHECK.due("by their order", x.cannot(), 2);
        x.start(1);
        CHECK.due("the first alone", x.cannot(), 0);
        HuntedScent y = new HuntedScent();
        CHECK.due("no ways, nothing smelt", y.cannot(), NONE);
        y.smelt(0, 0, 9);
        CHECK.due("no ways of 5 turns", y.cannot(), 0);
        HuntedScent z = Check.told("lane 0 1;smelt 0 2 9;");
        CHECK.due("he could have been there", z.ways(0), 1);
        CHECK.due("but not have gone on", z.cannot(), 0);
    }
}
