/** Promises 6 to 10: rule, lanes, join, start, far. */
public final class NetTest {
    private static final Check CHECK = new Check("net");
    private static final int NONE = HuntedScent.NONE, BAD = HuntedScent.BAD;

    public static void main(String[] args) {
        rules();
        joins();
        starts();
        steps();
        CHECK.done();
    }

    private static void rules() {
        HuntedScent x = Check.told("nodes 8;rest;start 7;lane 0 1 2 0;water 1;water 3;hole 0;");
        int[] due = {8, 3, 1, 7, 10, 1};
        for (int what = 0; what < due.length; what++) {
            CHECK.due("rule(" + what + ")", x.rule(what), due[what]);
        }
        CHECK.due("rule(-1)", x.rule(-1), BAD);
        CHECK.due("rule(6)", x.rule(6), BAD);
        CHECK.due("lanes(0)", x.lanes(0), 6);
        CHECK.due("lanes(7)", x.lanes(7), 0);
        CHECK.due("lanes(8)", x.lanes(8), BAD);
        CHECK.due("lanes(-1)", x.lanes(-1), BAD);
    }

    private static void joins() {
        HuntedScent x = new HuntedScent();
        CHECK.due("not joined yet", x.join(0, 4, true), 0);
        CHECK.due("joined already", x.join(4, 0, true), 1);
        CHECK.due("lanes(0)", x.lanes(0), 16);
        CHECK.due("lanes(4)", x.lanes(4), 1);
        CHECK.due("one lane", x.rule(1), 1);
        CHECK.due("no longer", x.join(4, 0, false), 1);
        CHECK.due("nor before", x.join(0, 4, false), 0);
        CHECK.due("no lane", x.rule(1), 0);
        int[][] bad = {{0, 0}, {4, 4}, {-1, 0}, {0, -1}, {5, 0}, {0, 5}, {Integer.MIN_VALUE, 1}, {1, Integer.MAX_VALUE}};
        for (int[] b : bad) {
            CHECK.due("join " + b[0] + " " + b[1], x.join(b[0], b[1], true), BAD);
            CHECK.due("unjoin " + b[0] + " " + b[1], x.join(b[0], b[1], false), BAD);
        }
        CHECK.due("what is refused changes nothing", x.rule(1), 0);
    }

    private static void starts() {
        HuntedScent x = new HuntedScent();
        CHECK.due("none at first", x.start(3), NONE);
        CHECK.due("a node", x.start(0), 3);
        CHECK.due("told none", x.start(NONE), 0);
        CHECK.due("was none", x.start(4), NONE);
        int[] bad = {-1, -2, -3, -5, 5, 10, Integer.MAX_VALUE};
        for (int i : bad) {
            CHECK.due("start " + i, x.start(i), BAD);
        }
        CHECK.due("what is refused changes nothing", x.rule(3), 4);
    }

    private static void steps() {
        HuntedScent x = Check.told("nodes 10;lane 0 1 2 3 4 5 6 7 8;lane 2 6;");
        CHECK.due("itself", x.far(9, 9), 0);
        CHECK.due("one", x.far(3, 2), 1);
        CHECK.due("the shorter way", x.far(0, 8), 5);
        CHECK.due("and back", x.far(8, 0), 5);
        CHECK.due("no way", x.far(0, 9), NONE);
        x.join(2, 6, false);
        CHECK.due("the longest row", x.far(0, 8), 8);
        x.join(8, 9, true);
        CHECK.due("all ten", x.far(9, 0), 9);
        CHECK.due("no such node", x.far(10, 0), BAD);
        CHECK.due("no such other", x.far(0, 10), BAD);
        CHECK.due("below 0", x.far(-1, -1), BAD);
    }
}
