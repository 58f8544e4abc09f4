/** Boundary cases of holes and of lanes that are stopped: promises 30 and 31. */
final class HolesBounds {
    private static final int[] SIZES = {2, 5, 10};

    private final Bounds b;

    private HolesBounds(Bounds b) {
        this.b = b;
    }

    static void all(Bounds b) {
        HolesBounds t = new HolesBounds(b);
        t.opens();
        t.steps();
        t.wrongOpen();
        t.stops();
        t.first();
        t.wrongStop();
    }

    private static String holes(int nodes) {
        StringBuilder text = new StringBuilder();
        for (int i = 0; i < nodes; i++) {
            text.append("hole").append(i).append(';');
        }
        return text.toString();
    }

    private void opens() {
        b.says(30, "HOLES that are OPEN to a fox on a NODE, hounds being on some (bits; 0 too).");
        HuntedScent row = Bounds.row(10, holes(10));
        HuntedScent none = Check.told("nodes 10;" + holes(10));
        HuntedScent dry = Bounds.row(10, "");
        for (int i = 0; i < 10; i++) {
            b.due("a row, no hounds, from " + i, row.open(i, 0), 1023);
            b.due("no lanes, no hounds, from " + i, none.open(i, 0), 1 << i);
            b.due("no holes, from " + i, dry.open(i, 0), 0);
            b.due("hounds everywhere, from " + i, row.open(i, 1023), 0);
            b.due("hounds elsewhere, from " + i, row.open(i, 1023 & ~(1 << i)), 1 << i);
            b.due("hounds elsewhere, no lanes, from " + i, none.open(i, 1023 & ~(1 << i)), 1 << i);
        }
    }

    private void steps() {
        b.says(30, "A HOLE is OPEN to him, if he can come to it by MOVES so that at no NODE of his way (where he is now too) "
            + "a hound of some (on NODES, bits) can be by as many steps or fewer.");
        HuntedScent row = Bounds.row(10, holes(10));
        b.due("a hound where he is now", row.open(4, 16), 0);
        for (int hound = 1; hound < 10; hound++) {
            int open = 0;
            for (int i = 0; i < 10; i++) {
                open |= i < Math.abs(hound - i) ? 1 << i : 0;
            }
            b.due("from 0, a hound on " + hound, row.open(0, 1 << hound), open);
        }
        b.due("as many steps: not open", Bounds.row(5, "hole 2;").open(0, 16), 0);
        b.due("one more: open", Bounds.row(6, "hole 2;").open(0, 32), 4);
        b.due("on his way, not at its end", Bounds.row(6, "hole 5;").open(0, 4), 0);
        HuntedScent ring = Check.told("nodes 7;lane 0 1 2 3 4 5 6 0;hole 3;lane 1 4;");
        b.due("by the other side", ring.open(0, 16), 0);
        HuntedScent round = Check.told("nodes 6;lane 0 1 2 3;lane 0 4 3;lane 5 1;hole 2;hole 3;");
        b.due("the way by 1 is shut, the one by 4 to 3 is not", round.open(0, 32), 8);
        b.due("a hound on 4 is in 3 sooner, in 2 as soon", round.open(0, 16), 0);
        HuntedScent apart = Check.told("nodes 4;lane 0 1;lane 2 3;hole 0;hole 1;hole 2;hole 3;");
        b.due("hounds who can not come", apart.open(0, 12), 3);
        b.due("holes that he can not come to", apart.open(2, 0), 12);
        b.due("hounds go, though the fox may not rest", Bounds.row(3, "hole 1;").open(0, 4), 0);
        b.due("by rests he does not come sooner", Bounds.row(3, "hole 1;rest;").open(0, 4), 0);
    }

    private void wrongOpen() {
        b.says(30, "BAD.");
        for (int size : SIZES) {
            HuntedScent x = Bounds.row(size, holes(size));
            int all = (1 << size) - 1;
            b.due("the last node", x.open(size - 1, 0), all);
            for (int fox : Bounds.noNodes(size)) {
                b.due("open(" + fox + ", 0) of " + size, x.open(fox, 0), Bounds.BAD);
                b.due("open(" + fox + ", " + all + ") of " + size, x.open(fox, all), Bounds.BAD);
            }
            for (int hounds : Bounds.noBits(size)) {
                b.due("open(0, " + hounds + ") of " + size, x.open(0, hounds), Bounds.BAD);
            }
        }
    }

    private void stops() {
        b.says(31, "The LANE without which the fewest HOLES are OPEN to him, fewer than now,");
        HuntedScent row = Bounds.row(10, holes(10));
        b.due("the first lane of a row", row.stop(0, 0, 0), 1);
        b.due("his own hole is left", row.stop(0, 0, 1), 1);
        b.due("the last lane of a row", row.stop(9, 0, 0), 89);
        b.due("his own hole is left", row.stop(9, 0, 1), 1);
        b.due("the lanes stay", row.rule(1), 9);
        HuntedScent last = Bounds.row(10, "hole 9;");
        b.due("none is left", last.stop(8, 0, 0), 89);
        b.due("none is left", last.stop(8, 0, 1), 0);
        HuntedScent x = Check.told("nodes 6;lane 0 1 2;lane 0 3;hole 1;hole 2;hole 3;");
        b.due("two are shut by 0 1, one by 0 3", x.stop(0, 0, 0), 1);
        b.due("one is left", x.stop(0, 0, 1), 1);
        HuntedScent hound = Bounds.row(4, "hole 0;hole 1;hole 3;");
        b.due("a hound is on his way to 3", hound.open(0, 4), 1);
        b.due("no lane makes it fewer", hound.stop(0, 4, 0), Bounds.NONE);
        b.due("without 2 1 it would be more", hound.stop(1, 8, 0), 1);
    }

    private void first() {
        b.says(31, "of several the first by its lesser NODE, then the other one (what 0: 10 times that and this), how few (1).");
        HuntedScent x = Check.told("nodes 10;lane 8 9;lane 8 7;lane 9 6;hole 6;");
        b.due("6 9 and 8 9 do as well", x.stop(8, 0, 0), 69);
        b.due("none is left", x.stop(8, 0, 1), 0);
        HuntedScent y = Check.told("lane 2 0 1;lane 0 3;hole 1;hole 2;hole 3;");
        b.due("0 1, 0 2, 0 3 do as well", y.stop(0, 0, 0), 1);
        b.due("two are left", y.stop(0, 0, 1), 2);
        HuntedScent z = Check.told("lane 3 1;lane 2 1;lane 4 1;hole 4;");
        b.due("1 4", z.stop(1, 0, 0), 14);
    }

    private void wrongStop() {
        b.says(31, "BAD; NONE.");
        for (int size : SIZES) {
            HuntedScent none = Check.told("nodes " + size + ";" + holes(size));
            HuntedScent x = Bounds.row(size, holes(size));
            HuntedScent dry = Bounds.row(size, "");
            int all = (1 << size) - 1;
            for (int what = 0; what < 2; what++) {
                b.due("no lanes", none.stop(0, 0, what), Bounds.NONE);
                b.due("no holes", dry.stop(0, 0, what), Bounds.NONE);
                b.due("none is open now", x.stop(0, all, what), Bounds.NONE);
                b.due("only where he is", x.stop(0, all & ~1, what), Bounds.NONE);
            }
            for (int fox : Bounds.noNodes(size)) {
                b.due("stop(" + fox + ", 0, 0) of " + size, x.stop(fox, 0, 0), Bounds.BAD);
                b.due("none: stop(" + fox + ", 0, 1) of " + size, none.stop(fox, 0, 1), Bounds.BAD);
            }
            for (int hounds : Bounds.noBits(size)) {
                b.due("stop(0, " + hounds + ", 0) of " + size, x.stop(0, hounds, 0), Bounds.BAD);
                b.due("none: stop(0, " + hounds + ", 1) of " + size, none.stop(0, hounds, 1), Bounds.BAD);
            }
            for (int what : Bounds.beyond(0, 1)) {
                b.due("stop(0, 0, " + what + ")", x.stop(0, 0, what), Bounds.BAD);
                b.due("none: stop(0, 0, " + what + ")", none.stop(0, 0, what), Bounds.BAD);
            }
            b.due("the lanes stay", x.rule(1), size - 1);
        }
        HuntedScent ring = Check.told("nodes 4;lane 0 1 2 3 0;hole 2;");
        b.due("two ways to it", ring.stop(0, 0, 0), Bounds.NONE);
    }
}
