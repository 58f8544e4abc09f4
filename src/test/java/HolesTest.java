/** Promises 30 and 31: open, stop. */
public final class HolesTest {
    private static final Check CHECK = new Check("holes");
    private static final int NONE = HuntedScent.NONE, BAD = HuntedScent.BAD;

    public static void main(String[] args) {
        wrongNumbers();
        opens();
        stops();
        CHECK.done();
    }

    private static void wrongNumbers() {
        HuntedScent x = Check.told("lane 0 1 2;hole 2;");
        int[][] bad = {{-1, 0}, {5, 0}, {0, -1}, {0, 32}, {0, Integer.MIN_VALUE}};
        for (int[] b : bad) {
            CHECK.due("open " + b[0] + " " + b[1], x.open(b[0], b[1]), BAD);
            CHECK.due("stop " + b[0] + " " + b[1], x.stop(b[0], b[1], 0), BAD);
        }
        CHECK.due("stop what -1", x.stop(0, 0, -1), BAD);
        CHECK.due("stop what 2", x.stop(0, 0, 2), BAD);
    }

    private static void opens() {
        HuntedScent x = Check.told("nodes 8;lane 0 1 2 3 4 5;lane 2 6;hole 0;hole 3;hole 5;hole 6;hole 7;");
        CHECK.due("no hounds", x.open(1, 0), 1 + 8 + 32 + 64);
        CHECK.due("where he is", x.open(7, 0), 128);
        CHECK.due("a hound on him", x.open(0, 1), 0);
        CHECK.due("as many steps are too many", x.open(1, 32), 1 + 64);
        CHECK.due("a hound is there as soon", x.open(1, 16), 1 + 64);
        CHECK.due("on his way, too", x.open(0, 4), 1);
        CHECK.due("a hound behind him", x.open(2, 2), 8 + 32 + 64);
        CHECK.due("of two hounds either", x.open(2, 2 + 32), 8 + 64);
        CHECK.due("hounds who can not come", x.open(1, 128), 1 + 8 + 32 + 64);
        CHECK.due("start and rest are not asked", x.open(3, 0), 1 + 8 + 32 + 64);
    }

    private static void stops() {
        HuntedScent x = Check.told("nodes 6;lane 0 1 2;lane 1 3;lane 4 0 5;hole 2;hole 3;hole 5;");
        CHECK.due("three are open", x.open(0, 0), 44);
        CHECK.due("without 0 to 1 one is left", x.stop(0, 0, 0), 1);
        CHECK.due("one", x.stop(0, 0, 1), 1);
        CHECK.due("the lanes are as they were", x.rule(1), 5);
        CHECK.due("from 4", x.stop(4, 0, 0), 4);
        CHECK.due("none is left", x.stop(4, 0, 1), 0);
        CHECK.due("a hound keeps him from two", x.open(0, 2), 32);
        CHECK.due("the last one", x.stop(0, 2, 0), 5);
        CHECK.due("he is taken", x.stop(0, 1, 0), NONE);
        CHECK.due("he is taken", x.stop(0, 1, 1), NONE);
        HuntedScent y = Check.told("nodes 4;lane 0 1 2 3 0;hole 2;");
        CHECK.due("two ways: no lane helps", y.stop(0, 0, 0), NONE);
        CHECK.due("two ways: no lane helps", y.stop(0, 0, 1), NONE);
        CHECK.due("on a hole", y.stop(2, 0, 1), NONE);
        HuntedScent z = Check.told("nodes 5;lane 3 2 1 0;hole 0;hole 3;hole 2;");
        CHECK.due("1 2 shuts two holes, 0 1 only one", z.stop(1, 0, 0), 12);
        CHECK.due("one is left", z.stop(1, 0, 1), 1);
        HuntedScent w = Check.told("lane 1 0 2;lane 1 3;lane 2 4;hole 3;hole 4;");
        CHECK.due("of several the first", w.stop(0, 0, 0), 1);
        HuntedScent v = Check.told("lane 2 0 1;lane 1 3;hole 3;");
        CHECK.due("its nodes by the lesser one", v.stop(0, 0, 0), 1);
        v.join(0, 3, true);
        v.join(0, 1, false);
        v.join(1, 3, false);
        CHECK.due("0 3", v.stop(0, 0, 0), 3);
    }
}
