/** Boundary cases of the net: promises 1 and 6 to 10. */
final class NetBounds {
    private final Bounds b;

    private NetBounds(Bounds b) {
        this.b = b;
    }

    static void all(Bounds b) {
        NetBounds t = new NetBounds(b);
        t.newObject();
        t.manyCalls();
        t.rules();
        t.lanes();
        t.joins();
        t.starts();
        t.steps();
    }

    private void newObject() {
        HuntedScent x = new HuntedScent();
        b.says(1, "As told at first;");
        b.due("fault", x.fault(), 0);
        b.due("torn", x.torn(), 0);
        b.due("the fox", x.now(0), Bounds.NONE);
        b.due("moves", x.now(1), 0);
        b.due("smells", x.now(3), 0);
        b.due("smelt", x.count(0), 0);
        b.due("images", x.count(2), 0);
        b.due("the tape", x.count(3), 0);

        b.says(1, "NODES 0 to nodes less 1 (2 to 10; 5 at first).");
        b.due("rule(0)", x.rule(0), 5);
        b.due("node 4", x.smell(4), 0);
        b.due("node 5", x.smell(5), Bounds.BAD);

        b.says(1, "LANES join two unlike NODES (none at first).");
        b.due("rule(1)", x.rule(1), 0);
        for (int i = 0; i < 5; i++) {
            b.due("lanes(" + i + ")", x.lanes(i), 0);
        }

        b.says(1, "WATER, HOLES: NODES that are so.");
        b.due("rule(4)", x.rule(4), 0);
        b.due("rule(5)", x.rule(5), 0);

        b.says(1, "REST (0, 1; 0 at first): whether the fox may stay where he is.");
        b.due("rule(2)", x.rule(2), 0);
        x.fox(0);
        b.due("he may not stay", x.go(0), Bounds.NONE);

        b.says(1, "START: the NODE where he begins, or none told (at first).");
        b.due("rule(3)", x.rule(3), Bounds.NONE);
        b.due("on any node", x.ways(0), 5);

        b.says(1, "SHEETS of nothing.");
        b.due("count(4)", x.count(4), Bounds.NONE);
        for (int k = 0; k < 4; k++) {
            b.due("lay(" + k + ", 0, 0)", x.lay(k, 0, 0), -11);
            b.due("read(" + k + ", 0, 0, 1)", x.read(k, 0, 0, 1), 0);
            b.due("torn()", x.torn(), 1);
        }
    }

    private void manyCalls() {
        b.says(1, "An object is used for at most 512 calls after it has been made;");
        HuntedScent x = new HuntedScent();
        x.sheet(3, 0, 1);
        for (int i = 2; i < 512; i++) {
            x.lay(3, 0, i);
        }
        b.due("the 512th call", x.lay(3, 1, 0), -12);
    }

    private void rules() {
        int[][] due = {{2, 0, 0, Bounds.NONE, 0, 0}, {10, 45, 1, 9, 1023, 1023}};
        StringBuilder most = new StringBuilder("rest;start 9;");
        for (int i = 0; i < 10; i++) {
            most.append("water").append(i).append(";hole").append(i).append(';');
        }
        HuntedScent[] nets = {Check.told("nodes 2;"), Bounds.allJoined(10, most.toString())};
        String[] says = {"0 NODES", "1 LANES", "2 REST", "3 START (NONE: none)", "4 WATER, 5 HOLES (bits each)."};
        for (int what = 0; what < 6; what++) {
            b.says(6, says[Math.min(what, 4)]);
            b.due("rule(" + what + ") of the least net", nets[0].rule(what), due[0][what]);
            b.due("rule(" + what + ") of the fullest net", nets[1].rule(what), due[1][what]);
        }
        HuntedScent x = Check.told("start 0;water 0;hole 4;");
        b.due("start 0", x.rule(3), 0);
        b.due("water 0", x.rule(4), 1);
        b.due("hole 4", x.rule(5), 16);
        b.says(6, "BAD.");
        for (int what : Bounds.beyond(0, 5)) {
            b.due("rule(" + what + ")", x.rule(what), Bounds.BAD);
        }
    }

    private void lanes() {
        b.says(7, "NODES that a NODE is joined to (bits).");
        HuntedScent all = Bounds.allJoined(10, "rest;");
        HuntedScent none = Check.told("nodes 10;rest;");
        HuntedScent last = Check.told("nodes 10;lane 0 9;");
        for (int i = 0; i < 10; i++) {
            b.due("lanes(" + i + "), all joined", all.lanes(i), 1023 & ~(1 << i));
            b.due("lanes(" + i + "), none joined", none.lanes(i), 0);
            b.due("lanes(" + i + "), 0 and 9 joined", last.lanes(i), i == 0 ? 512 : i == 9 ? 1 : 0);
        }
        b.says(7, "BAD.");
        int[] sizes = {2, 5, 10};
        for (int n : sizes) {
            HuntedScent x = Bounds.row(n, "");
            b.due("lanes(0) of " + n, x.lanes(0), 2);
            b.due("the last node of " + n, x.lanes(n - 1), 1 << n - 2);
            for (int i : Bounds.noNodes(n)) {
                b.due("lanes(" + i + ") of " + n, x.lanes(i), Bounds.BAD);
            }
        }
    }

    private void joins() {
        b.says(8, "Two NODES are joined, or not: whether they were.");
        int[] sizes = {2, 5, 10};
        for (int n : sizes) {
            HuntedScent x = Check.told("nodes " + n + ";");
            b.due("not joined: false", x.join(0, n - 1, false), 0);
            b.due("no lane", x.rule(1), 0);
            b.due("not joined: true", x.join(0, n - 1, true), 0);
            b.due("a lane", x.rule(1), 1);
            b.due("joined: true", x.join(n - 1, 0, true), 1);
            b.due("a lane", x.rule(1), 1);
            b.due("of the one", x.lanes(0), 1 << n - 1);
            b.due("and the other", x.lanes(n - 1), 1);
            b.due("joined: false", x.join(n - 1, 0, false), 1);
            b.due("no lane", x.rule(1), 0);
            b.due("of the one", x.lanes(0), 0);
            b.due("nor the other", x.lanes(n - 1), 0);
        }
        b.says(8, "BAD (also alike).");
        for (int n : sizes) {
            HuntedScent x = Check.told("nodes " + n + ";");
            for (int i = 0; i < n; i++) {
                b.due("join(" + i + ", " + i + ", true)", x.join(i, i, true), Bounds.BAD);
                b.due("join(" + i + ", " + i + ", false)", x.join(i, i, false), Bounds.BAD);
                b.due("lanes(" + i + ")", x.lanes(i), 0);
            }
            for (int i : Bounds.noNodes(n)) {
                b.due("join(" + i + ", 0, true) of " + n, x.join(i, 0, true), Bounds.BAD);
                b.due("join(1, " + i + ", true) of " + n, x.join(1, i, true), Bounds.BAD);
                b.due("join(" + i + ", " + i + ", false) of " + n, x.join(i, i, false), Bounds.BAD);
            }
            b.due("no lanes of " + n, x.rule(1), 0);
        }
    }

    private void starts() {
        b.says(9, "START becomes a NODE (NONE: none is told): what it was.");
        HuntedScent x = new HuntedScent();
        b.due("none yet", x.start(0), Bounds.NONE);
        b.due("start(0) told", x.rule(3), 0);
        b.due("was 0", x.start(4), 0);
        b.due("was 4", x.start(4), 4);
        b.due("was 4", x.start(Bounds.NONE), 4);
        b.due("none told", x.rule(3), Bounds.NONE);
        b.due("was none", x.start(Bounds.NONE), Bounds.NONE);
        HuntedScent y = Check.told("nodes 10;start 9;");
        b.due("told by a text", y.start(Bounds.NONE), 9);
        b.due("none again", y.start(9), Bounds.NONE);
        b.says(9, "BAD.");
        int[] sizes = {2, 5, 10};
        for (int n : sizes) {
            HuntedScent z = Check.told("nodes " + n + ";start 1;");
            for (int i : Bounds.noNodes(n)) {
                if (i != Bounds.NONE) {
                    b.due("start(" + i + ") of " + n, z.start(i), Bounds.BAD);
                    b.due("start then", z.rule(3), 1);
                }
            }
            b.due("the last node of " + n, z.start(n - 1), 1);
        }
    }

    private void steps() {
        b.says(10, "How many steps it is from a NODE to another one (itself: 0), by LANES.");
        HuntedScent row = Bounds.row(10, "water 4;hole 5;start 6;");
        HuntedScent all = Bounds.allJoined(10, "");
        HuntedScent ring = Check.told("nodes 10;lane 0 1 2 3 4 5 6 7 8 9 0;");
        for (int i = 0; i < 10; i++) {
            b.due("row: far(" + i + ", " + i + ")", row.far(i, i), 0);
            b.due("row: far(0, " + i + ")", row.far(0, i), i);
            b.due("row: far(" + i + ", 9)", row.far(i, 9), 9 - i);
            b.due("all joined: far(5, " + i + ")", all.far(5, i), i == 5 ? 0 : 1);
            b.due("ring: far(0, " + i + ")", ring.far(0, i), Math.min(i, 10 - i));
        }
        b.says(10, "BAD; NONE: there is no way.");
        int[] sizes = {2, 5, 10};
        for (int n : sizes) {
            HuntedScent x = Check.told("rest;nodes " + n + ";");
            b.due("no lanes: itself", x.far(n - 1, n - 1), 0);
            b.due("no lanes: another one", x.far(0, n - 1), Bounds.NONE);
            b.due("and back", x.far(n - 1, 0), Bounds.NONE);
            for (int i : Bounds.noNodes(n)) {
                b.due("far(" + i + ", 0) of " + n, x.far(i, 0), Bounds.BAD);
                b.due("far(0, " + i + ") of " + n, x.far(0, i), Bounds.BAD);
                b.due("far(" + i + ", " + i + ") of " + n, x.far(i, i), Bounds.BAD);
            }
        }
        row.join(4, 5, false);
        b.due("a row in two parts", row.far(4, 5), Bounds.NONE);
        b.due("within a part", row.far(0, 4), 4);
    }
}
