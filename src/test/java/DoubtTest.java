/** Promises 22 and 23: doubt, post. */
public final class DoubtTest {
    private static final Check CHECK = new Check("doubt");
    private static final int NONE = HuntedScent.NONE, BAD = HuntedScent.BAD;

    public static void main(String[] args) {
        wrongNumbers();
        rowOfFive();
        noWay();
        water();
        posts();
        CHECK.done();
    }

    private static void wrongNumbers() {
        HuntedScent x = Check.told("lane 0 1 2;");
        int[][] bad = {{-1, 1, 0, 0}, {5, 1, 0, 0}, {0, -1, 0, 0}, {0, 4, 0, 0}, {0, 1, -1, 0}, {0, 1, 32, 0}, {0, 1, 0, -1}};
        for (int[] b : bad) {
            CHECK.due("doubt " + b[0] + " " + b[1] + " " + b[2], x.doubt(b[0], b[1], b[2], b[3]), BAD);
            CHECK.due("post " + b[0] + " " + b[1] + " " + b[2], x.post(b[0], b[1], b[2], b[3]), BAD);
        }
        int[] doubts = {1, 2, 9, 12, 13, Integer.MIN_VALUE, Integer.MAX_VALUE};
        for (int what : doubts) {
            CHECK.due("doubt what " + what, x.doubt(0, 1, 0, what), BAD);
        }
        CHECK.due("post what 2", x.post(0, 1, 0, 2), BAD);
        CHECK.due("post what 10", x.post(0, 1, 0, 10), BAD);
    }

    /** 0 1 2 3 4 in a row: from 2 on, three moves end in 1 or 3 (or 0 .. 4 with rests). */
    private static void rowOfFive() {
        HuntedScent x = Check.told("lane 0 1 2 3 4;start 0;");
        CHECK.due("no turn", x.doubt(2, 0, 0, 0), 1);
        CHECK.due("no turn", x.doubt(2, 0, 0, 10), 2);
        CHECK.due("no posts", x.doubt(2, 3, 0, 0), 2);
        int[] first = {2, 1, 0, 1};
        for (int t = 0; t < 4; t++) {
            CHECK.due("the first way, turn " + t, x.doubt(2, 3, 0, 10 + t), first[t]);
        }
        CHECK.due("two moves", x.doubt(2, 2, 0, 0), 3);
        CHECK.due("a post in 1 tells all of these", x.doubt(2, 1, 2, 0), 1);
        CHECK.due("a post in 2: by two moves 0 or 4", x.doubt(2, 2, 4, 0), 2);
        CHECK.due("turn 2 of the first", x.doubt(2, 2, 4, 12), 0);
        CHECK.due("a post in 1, three moves", x.doubt(2, 3, 2, 0), 1);
        CHECK.due("a post in 1: he went by 3", x.doubt(2, 2, 2, 11), 1);
        CHECK.due("start and smelt are not asked", x.doubt(2, 2, 31, 0), 1);
        x.smelt(0, 4, 9);
        CHECK.due("start and smelt are not asked", x.doubt(2, 2, 0, 0), 3);
    }

    private static void noWay() {
        HuntedScent x = new HuntedScent();
        CHECK.due("no way", x.doubt(0, 1, 0, 0), 0);
        CHECK.due("no way", x.doubt(0, 1, 0, 10), NONE);
        CHECK.due("no way", x.doubt(0, 1, 0, 11), NONE);
        CHECK.due("no way, but of no turn", x.doubt(0, 0, 31, 10), 0);
        CHECK.due("no way: the least node", x.post(3, 2, 0, 0), 0);
        CHECK.due("no way: no doubt", x.post(3, 2, 0, 1), 0);
    }

    private static void water() {
        HuntedScent x = Check.told("nodes 4;lane 0 1 2 3 0;lane 0 2;water 1;water 3;");
        CHECK.due("posts on water tell that he is on no other post", x.doubt(0, 1, 10, 0), 3);
        CHECK.due("a post in 2 is left", x.doubt(0, 1, 15, 0), 2);
        CHECK.due("the first in doubt", x.doubt(0, 1, 15, 11), 1);
    }

    private static void posts() {
        HuntedScent x = Check.told("lane 0 1 2 3 4;");
        CHECK.due("from 2, two moves: 1 or 3", x.post(2, 2, 0, 0), 0);
        CHECK.due("is left", x.post(2, 2, 0, 1), 2);
        CHECK.due("one is a post", x.post(2, 2, 1, 0), 2);
        CHECK.due("one more", x.post(2, 2, 1, 1), 1);
        CHECK.due("none is needed", x.post(2, 2, 3, 0), 2);
        CHECK.due("the last", x.post(2, 2, 15, 0), 4);
        CHECK.due("all are posts", x.post(2, 2, 31, 0), NONE);
        CHECK.due("all are posts", x.post(2, 2, 31, 1), NONE);
    }
}
