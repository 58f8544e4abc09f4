/** Promise 32: season. Its draws are gone through by hand where the net is small. */
public final class SeasonTest {
    private static final Check CHECK = new Check("season");
    private static final int BAD = HuntedScent.BAD;

    public static void main(String[] args) {
        wrongNumbers();
        nothingMoves();
        changesNothing();
        asShared();
        CHECK.done();
    }

    private static void wrongNumbers() {
        HuntedScent x = new HuntedScent();
        CHECK.due("no hunts", x.season(1, 0, 0), BAD);
        CHECK.due("21 hunts", x.season(1, 21, 0), BAD);
        CHECK.due("below 0", x.season(1, -1, 0), BAD);
        CHECK.due("what -1", x.season(1, 1, -1), BAD);
        CHECK.due("what 2", x.season(1, 1, 2), BAD);
    }

    private static int next(int seed) {
        return seed * 1103515245 + 12345;
    }

    private static int drawn(int seed, int k) {
        return (seed >> 16 & 32767) % k;
    }

    /** No lanes: a fox and a hound are drawn, and nothing else; on one node he is caught in turn 1. */
    private static void nothingMoves() {
        HuntedScent x = new HuntedScent();
        for (int first = -300; first < 300; first += 7) {
            int seed = first, caught = 0, turns = 0;
            for (int i = 0; i < 20; i++) {
                seed = next(seed);
                int fox = drawn(seed, 5);
                seed = next(seed);
                boolean is = fox == drawn(seed, 5);
                caught += is ? 1 : 0;
                turns += is ? 1 : 20;
            }
            CHECK.due("caught by " + first, x.season(first, 20, 0), caught);
            CHECK.due("turns by " + first, x.season(first, 20, 1), turns);
        }
    }

    private static void changesNothing() {
        HuntedScent x = Check.told("lane 0 1 2 3 4;rest;");
        x.fox(2);
        x.go(3);
        int sum = x.now(3);
        int caught = x.season(Integer.MIN_VALUE, 20, 0);
        CHECK.due("where he is", x.now(0), 3);
        CHECK.due("moves", x.now(1), 1);
        CHECK.due("smells", x.now(3), sum);
        CHECK.due("the same seed, the same season", x.season(Integer.MIN_VALUE, 20, 0), caught);
    }

    private static void asShared() {
        HuntedScent x = Check.told("nodes 4;rest;lane 0 1 2 3;");
        CHECK.due("caught", x.season(1, 20, 0), 20);
        CHECK.due("turns", x.season(1, 20, 1), 30);
        Oracle o = new Oracle();
        HuntedScent y = new HuntedScent();
        String text = "nodes 10;lane 0 1 2 3 4 5 6 7 0;lane 8 9;water 2;water 5;";
        for (int i = 0; i < text.length() / 8 * 8; i += 8) {
            long v = 0;
            for (int j = 0; j < 8; j++) {
                v = v << 8 | text.charAt(i + j);
            }
            y.feed(v);
            o.feed(v);
        }
        CHECK.due("a text", y.text(), o.text());
        for (int seed = 0; seed < 200; seed++) {
            CHECK.due("caught by " + seed, y.season(seed * 7919, 10, 0), o.season(seed * 7919, 10, 0));
            CHECK.due("turns by " + seed, y.season(seed * 7919, 10, 1), o.season(seed * 7919, 10, 1));
        }
    }
}
