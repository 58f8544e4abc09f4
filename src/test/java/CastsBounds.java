/** Boundary cases of casts: promises 24 to 26. */
final class CastsBounds {
    private static final int[] SIZES = {2, 5, 10};

    private final Bounds b;

    private CastsBounds(Bounds b) {
        this.b = b;
    }

    static void all(Bounds b) {
        CastsBounds t = new CastsBounds(b);
        t.hounds();
        t.someNodes();
        t.turns();
        t.wrongWhat();
        t.castOfHounds();
        t.anotherNet();
        t.findsHim();
        t.stays();
        t.needs();
        t.lefts();
    }

    private void hounds() {
        b.says(24, "A SURE row of CASTS of k hounds (1 to 5) for a fox on one of some NODES (bits, not 0):");
        HuntedScent x = Check.told("nodes 10;");
        int[] due = {10, 5, 4, 3, 2};
        for (int k = 1; k <= 5; k++) {
            b.due("ten nodes, k is " + k, x.casts(k, 1023, 0), due[k - 1]);
        }
        for (int k : Bounds.beyond(1, 5)) {
            b.due("k is " + k, x.casts(k, 1023, 0), Bounds.BAD);
            b.due("k is " + k, x.casts(k, 1, 10), Bounds.BAD);
        }
    }

    private void someNodes() {
        b.says(24, "(bits, not 0)");
        for (int size : SIZES) {
            HuntedScent x = Check.told("nodes " + size + ";");
            b.due("no node", x.casts(1, 0, 0), Bounds.BAD);
            b.due("no node", x.casts(5, 0, 10), Bounds.BAD);
            b.due("node 0", x.casts(1, 1, 10), 1);
            b.due("the last node", x.casts(1, 1 << size - 1, 10), 1 << size - 1);
            b.due("all nodes", x.casts(1, (1 << size) - 1, 0), size);
            for (int some : Bounds.noBits(size)) {
                b.due("nodes " + some + " of " + size, x.casts(1, some, 0), Bounds.BAD);
                b.due("nodes " + some + " of " + size, x.casts(5, some, 10), Bounds.BAD);
            }
        }
    }

    private void turns() {
        b.says(24, "the fewest TURNS (what 0);");
        b.due("one", Bounds.row(10, "rest;").casts(1, 512, 0), 1);
        b.due("a row of ten", Bounds.row(10, "").casts(1, 1023, 0), 16);
        b.says(24, "10 and t (0 to 1023): the CAST of TURN t (bits; 0 the first) of the first such row (by CASTS as bits, one behind another).");
        HuntedScent x = Check.told("nodes 10;");
        for (int t = 0; t < 10; t++) {
            b.due("one hound: turn " + t, x.casts(1, 1023, 10 + t), 1 << t);
        }
        for (int t = 0; t < 5; t++) {
            b.due("two hounds: turn " + t, x.casts(2, 1023, 10 + t), 3 << 2 * t);
        }
        int[] less = {3, 5, 24};
        HuntedScent five = new HuntedScent();
        for (int t = 0; t < 3; t++) {
            b.due("two hounds for five nodes, one cast of a node that is empty: turn " + t, five.casts(2, 31, 10 + t), less[t]);
        }
        HuntedScent row = Bounds.row(10, "");
        for (int t = 0; t < 16; t++) {
            b.due("a row of ten: turn " + t, row.casts(1, 1023, 10 + t), 1 << (t < 8 ? t + 1 : 16 - t));
        }
        b.says(24, "NONE: there is none; 10 and t: not so many.");
        b.due("a row of ten: turn 16", row.casts(1, 1023, 26), Bounds.NONE);
        b.due("ten casts: turn 10", x.casts(1, 1023, 20), Bounds.NONE);
        b.due("one cast: turn 1", x.casts(1, 1, 11), Bounds.NONE);
        b.due("one cast: turn 1023", x.casts(1, 1, 1033), Bounds.NONE);
        HuntedScent never = Bounds.allJoined(10, "rest;");
        for (int k = 1; k <= 5; k++) {
            b.due("all joined, k is " + k, never.casts(k, 1023, 0), Bounds.NONE);
            b.due("all joined, turn 0", never.casts(k, 1023, 10), Bounds.NONE);
            b.due("all joined, turn 1023", never.casts(k, 1023, 1033), Bounds.NONE);
            b.due("but as many as there are hounds", never.casts(k, (1 << k) - 1, 0), 1);
            b.due("one more", never.casts(k, (2 << k) - 1, 0), Bounds.NONE);
        }
    }

    private void wrongWhat() {
        b.says(24, "BAD; NONE: there is none;");
        HuntedScent x = Check.told("lane 0 1 2;");
        HuntedScent none = Bounds.allJoined(10, "rest;");
        for (int what : Bounds.beyond(10, 1033)) {
            b.due("what is " + what, x.casts(1, 7, what), Bounds.BAD);
            b.due("no row, what is " + what, none.casts(1, 7, what), Bounds.BAD);
        }
        for (int what = -1; what < 10; what++) {
            if (what != 0) {
                b.due("what is " + what, x.casts(1, 7, what), Bounds.BAD);
                b.due("no row, what is " + what, none.casts(1, 7, what), Bounds.BAD);
            }
        }
        b.due("what is 1033", x.casts(1, 7, 1033), Bounds.NONE);
        b.due("what is 10", x.casts(1, 7, 10), 2);
    }

    private void castOfHounds() {
        b.says(24, "A CAST of k hounds: k unlike NODES (all NODES, if there are no more).");
        for (int size = 2; size <= 10; size++) {
            HuntedScent x = Check.told("nodes " + size + ";");
            for (int k = 1; k <= 5; k++) {
                int least = (1 << Math.min(k, size)) - 1;
                int last = least << size - Math.min(k, size);
                b.due(k + " hounds, " + size + " nodes, a fox on one of the last", x.casts(k, last, 10), last);
                b.due(k + " hounds, " + size + " nodes, a fox on 0", x.casts(k, 1, 10), least);
                boolean isAll = k >= size;
                b.due(k + " hounds, " + size + " nodes, on any", x.casts(k, (1 << size) - 1, 0), isAll ? 1 : (size + k - 1) / k);
                b.due(k + " hounds, " + size + " nodes, on the last", x.casts(k, 1 << size - 1, 10), isAll ? least : least >> 1 | 1 << size - 1);
            }
        }
    }

    private void anotherNet() {
        b.says(24, "A SURE row of CASTS of k hounds (1 to 5) for a fox on one of some NODES");
        HuntedScent x = Check.told("nodes 10;");
        b.due("five hounds", x.casts(5, 1023, 0), 2);
        b.due("two hounds", x.casts(2, 1023, 0), 5);
        b.due("turn 4 of five", x.casts(2, 1023, 14), 768);
        b.due("other nodes", x.casts(2, 7, 0), 2);
        x.keep(0);
        x.join(0, 1, true);
        x.join(1, 2, true);
        b.due("with lanes", x.casts(1, 7, 11), 2);
        b.due("they are two", x.casts(1, 7, 0), 2);
        x.back(0);
        b.due("without", x.casts(1, 7, 0), 3);
        x.text();
        b.due("five nodes", x.casts(1, 31, 0), 5);
        b.due("and no more", x.casts(1, 32, 0), Bounds.BAD);
    }

    private void findsHim() {
        b.says(24, "The fox is on one of some NODES, unseen. In each TURN: a CAST finds him, if he is on one of its NODES; else he makes a MOVE.");
        HuntedScent x = Check.told("nodes 2;lane 0 1;");
        b.due("he has to come where the hound is", x.casts(1, 3, 0), 2);
        b.due("turn 0", x.casts(1, 3, 10), 1);
        b.due("turn 1", x.casts(1, 3, 11), 1);
        b.due("turn 2", x.casts(1, 3, 12), Bounds.NONE);
        HuntedScent rest = Check.told("nodes 2;lane 0 1;rest;");
        b.due("if he may stay, never", rest.casts(1, 3, 0), Bounds.NONE);
        b.due("by two at once", rest.casts(2, 3, 0), 1);
        b.due("he is there: at once", rest.casts(1, 2, 10), 2);
    }

    private void stays() {
        b.says(24, "A SURE row of CASTS finds him wherever he was and goes (he may not be able to move: he stays).");
        HuntedScent x = Check.told("nodes 3;lane 0 1;");
        int[] due = {1, 1, 4};
        b.due("a lane and a lone node", x.casts(1, 7, 0), 3);
        for (int t = 0; t < 3; t++) {
            b.due("turn " + t, x.casts(1, 7, 10 + t), due[t]);
        }
        b.due("a lone node", x.casts(1, 4, 0), 1);
        b.due("start, water and holes are not asked", Check.told("nodes 3;lane 0 1;start 0;water 1;hole 0;smelt 0 0 9;").casts(1, 7, 0), 3);
    }

    private void needs() {
        b.says(25, "The fewest hounds (1 to 5) for which there is a SURE row for a fox on any NODE.");
        b.due("no lanes", Check.told("nodes 10;").need(), 1);
        b.due("two nodes", Check.told("nodes 2;lane 0 1;").need(), 1);
        for (int n = 2; n <= 5; n++) {
            b.due(n + " nodes, all joined, rest", Bounds.allJoined(n, "rest;").need(), n);
        }
        for (int n = 3; n <= 6; n++) {
            b.due(n + " nodes, all joined", Bounds.allJoined(n, "").need(), n - 1);
        }
        b.says(25, "NONE: five are too few.");
        for (int n = 6; n <= 10; n++) {
            b.due(n + " nodes, all joined, rest", Bounds.allJoined(n, "rest;").need(), Bounds.NONE);
        }
        for (int n = 7; n <= 10; n++) {
            b.due(n + " nodes, all joined", Bounds.allJoined(n, "").need(), Bounds.NONE);
        }
    }

    private void lefts() {
        b.says(26, "NODES where a fox, who was on some NODES (bits) and is on none of a CAST's (bits), can be a MOVE later");
        HuntedScent all = Bounds.allJoined(10, "rest;");
        HuntedScent row = Bounds.row(10, "");
        b.due("no node, no cast", all.left(0, 0), 0);
        b.due("no node, a cast of all", all.left(0, 1023), 0);
        b.due("all nodes, no cast", all.left(1023, 0), 1023);
        b.due("all nodes, a cast of all", all.left(1023, 1023), 0);
        b.due("a row: all nodes, a cast of all but 9", row.left(1023, 511), 256);
        b.due("a row: all nodes, a cast of all but 0", row.left(1023, 1022), 2);
        b.due("a row: a cast where he was not", row.left(1, 1022), 2);
        b.due("a row: a cast where he goes", row.left(1, 2), 2);
        b.due("a row: node 9", row.left(512, 0), 256);
        b.says(26, "(bits; who can not move stays).");
        HuntedScent none = Check.told("nodes 10;lane 0 1;");
        b.due("lone nodes", none.left(1020, 0), 1020);
        b.due("one was on a lane", none.left(1021, 512), 2 + 508);
        b.due("who rests stays", Check.told("lane 0 1;rest;").left(17, 0), 19);
        b.says(26, "BAD.");
        for (int size : SIZES) {
            HuntedScent x = Check.told("nodes " + size + ";");
            int full = (1 << size) - 1;
            b.due("all of " + size, x.left(full, 0), full);
            for (int bits : Bounds.noBits(size)) {
                b.due("left(" + bits + ", 0) of " + size, x.left(bits, 0), Bounds.BAD);
                b.due("left(0, " + bits + ") of " + size, x.left(0, bits), Bounds.BAD);
                b.due("left(" + bits + ", " + bits + ") of " + size, x.left(bits, bits), Bounds.BAD);
            }
        }
    }
}
