/** Boundary cases of doubt: promises 22 and 23. */
final class DoubtBounds {
    private static final int[] SIZES = {2, 5, 10};

    private final Bounds b;

    private DoubtBounds(Bounds b) {
        this.b = b;
    }

    static void all(Bounds b) {
        DoubtBounds t = new DoubtBounds(b);
        t.most();
        t.firstOfThem();
        t.refusedDoubts();
        t.doubtAtPosts();
        t.oneMorePost();
        t.refusedPosts();
    }

    private void most() {
        b.says(22, "WAYS of n TURNS (0 to 3) from a NODE on with the most DOUBT at POSTS: that DOUBT (what 0; 0: there is no WAY);");
        HuntedScent all = Bounds.allJoined(10, "");
        HuntedScent rest = Bounds.allJoined(10, "rest;");
        HuntedScent none = Check.told("nodes 10;");
        HuntedScent stays = Check.told("nodes 10;rest;");
        for (int n = 0; n <= 3; n++) {
            b.due("all joined: n is " + n, all.doubt(0, n, 0, 0), n == 0 ? 1 : n == 1 ? 9 : 10);
            b.due("all joined, from 9: n is " + n, all.doubt(9, n, 0, 0), n == 0 ? 1 : n == 1 ? 9 : 10);
            b.due("and rest: n is " + n, rest.doubt(9, n, 0, 0), n == 0 ? 1 : 10);
            b.due("and posts everywhere: n is " + n, rest.doubt(9, n, 1023, 0), 1);
            b.due("no lane: n is " + n, none.doubt(9, n, 0, 0), n == 0 ? 1 : 0);
            b.due("no lane, posts everywhere: n is " + n, none.doubt(0, n, 1023, 0), n == 0 ? 1 : 0);
            b.due("no lane, rest: n is " + n, stays.doubt(9, n, 0, 0), 1);
        }
    }

    private void firstOfThem() {
        b.says(22, "10 and t: the NODE of TURN t of the first of them.");
        HuntedScent all = Bounds.allJoined(10, "");
        HuntedScent rest = Bounds.allJoined(10, "rest;");
        HuntedScent star = Bounds.star(10, 4, "");
        for (int n = 0; n <= 3; n++) {
            for (int t = 0; t <= n; t++) {
                String told = "n is " + n + ", what is " + (10 + t);
                b.due("all joined, from 9: " + told, all.doubt(9, n, 0, 10 + t), t == 0 ? 9 : 1 - t % 2);
                b.due("and rest: " + told, rest.doubt(9, n, 0, 10 + t), t == 0 ? 9 : 0);
                b.due("posts everywhere: " + told, rest.doubt(9, n, 1023, 10 + t), t == 0 ? 9 : 0);
                b.due("a star, from its middle: " + told, star.doubt(4, n, 0, 10 + t), t % 2 == 0 ? 4 : 0);
                b.due("a post in 0: " + told, star.doubt(4, n, 1, 10 + t), n == 0 || t % 2 == 0 ? 4 : n == 1 || t == n ? 1 : 0);
            }
        }
    }

    private void refusedDoubts() {
        b.says(22, "BAD; NONE (10 and t): there is no WAY.");
        for (int size : SIZES) {
            HuntedScent x = Bounds.row(size, "rest;");
            b.due("from the last node", x.doubt(size - 1, 1, 0, 0), 2);
            b.due("posts everywhere", x.doubt(size - 1, 1, (1 << size) - 1, 0), 1);
            for (int from : Bounds.noNodes(size)) {
                b.due("from " + from + " of " + size, x.doubt(from, 1, 0, 0), Bounds.BAD);
                b.due("from " + from + " of " + size, x.doubt(from, 1, 0, 10), Bounds.BAD);
            }
            for (int n : Bounds.beyond(0, 3)) {
                b.due("n is " + n, x.doubt(0, n, 0, 0), Bounds.BAD);
                b.due("n is " + n, x.doubt(0, n, 0, 10), Bounds.BAD);
            }
            for (int posts : Bounds.noBits(size)) {
                b.due("posts " + posts + " of " + size, x.doubt(0, 1, posts, 0), Bounds.BAD);
                b.due("posts " + posts + " of " + size, x.doubt(0, 1, posts, 10), Bounds.BAD);
            }
        }
        HuntedScent x = Check.told("lane 0 1;");
        for (int n = 0; n <= 3; n++) {
            for (int what : Bounds.beyond(10, 10 + n)) {
                b.due("n is " + n + ", what is " + what, x.doubt(0, n, 0, what), Bounds.BAD);
                b.due("no way: n is " + n + ", what is " + what, x.doubt(4, n, 0, what), Bounds.BAD);
            }
            for (int what = 1; what < 10; what++) {
                b.due("n is " + n + ", what is " + what, x.doubt(0, n, 0, what), Bounds.BAD);
            }
            b.due("what is -1", x.doubt(0, n, 0, -1), Bounds.BAD);
            for (int t = 0; t <= n; t++) {
                b.due("no way: n is " + n + ", what is " + (10 + t), x.doubt(4, n, 0, 10 + t), n == 0 ? 4 : Bounds.NONE);
            }
        }
    }

    private void doubtAtPosts() {
        b.says(22, "DOUBT of a WAY at POSTS (some NODES, bits): NODES at which WAYS of as many TURNS end, from the same NODE on, "
            + "whose SMELLS at all POSTS behind each TURN are as its own.");
        HuntedScent star = Bounds.star(10, 0, "");
        int posts = 0;
        for (int leaves = 0; leaves <= 9; leaves++) {
            b.due("a star: posts in " + leaves + " leaves", star.doubt(0, 1, posts, 0), Math.max(1, 9 - leaves));
            b.due("and in its middle, where he can not be", star.doubt(0, 1, posts | 1, 0), Math.max(1, 9 - leaves));
            posts |= 1 << leaves + 1;
        }
        HuntedScent wet = Bounds.star(10, 0, "water 1;water 9;");
        b.due("on water they tell nothing", wet.doubt(0, 1, 2 + 512, 0), 9);
        b.due("but the one that is not", wet.doubt(0, 1, 2 + 4 + 512, 0), 8);
        HuntedScent x = Check.told("lane 0 1 2 3;rest;water 2;");
        b.due("he can stay in 0, or come to 1", x.doubt(0, 1, 0, 0), 2);
        b.due("a post in 0 tells which", x.doubt(0, 1, 1, 0), 1);
        b.due("a post in 1, seen in turn 1 alone: then back to 0 or on to 2", x.doubt(0, 2, 2, 0), 2);
        b.due("and a turn more: 0, 2, 3", x.doubt(0, 3, 2, 0), 3);
        b.due("posts in 0 and 1: the same, but 2 or 3", x.doubt(0, 3, 3, 0), 2);
        b.due("start and what was smelt are not asked", Check.told("lane 0 1 2;start 4;smelt 0 4 9;").doubt(1, 1, 0, 0), 2);
    }

    private void oneMorePost() {
        b.says(23, "The NODE (not a POST yet) that as one POST more makes the most DOUBT least, of several the least (what 0), that DOUBT (1).");
        HuntedScent star = Bounds.star(10, 0, "");
        b.due("a star: a leaf", star.post(0, 1, 0, 0), 1);
        b.due("eight are left", star.post(0, 1, 0, 1), 8);
        b.due("the next leaf", star.post(0, 1, 2, 0), 2);
        b.due("seven are left", star.post(0, 1, 2, 1), 7);
        b.due("leaves 1 to 8 are: any will do", star.post(0, 1, 510, 0), 0);
        b.due("one is left", star.post(0, 1, 510, 1), 1);
        b.due("no turn: any will do", star.post(9, 0, 0, 0), 0);
        b.due("one is left", star.post(9, 0, 0, 1), 1);
        for (int i = 0; i < 10; i++) {
            b.due("the last that is none", star.post(0, 1, 1023 & ~(1 << i), 0), i);
            b.due("one is left", star.post(0, 1, 1023 & ~(1 << i), 1), 1);
        }
        HuntedScent none = Check.told("nodes 10;");
        b.due("no way: the least", none.post(5, 3, 0, 0), 0);
        b.due("no way: no doubt", none.post(5, 3, 0, 1), 0);
        b.due("no way: the least that is none", none.post(5, 1, 7, 0), 3);
        HuntedScent wet = Bounds.star(5, 0, "water 1;water 2;");
        b.due("not on water", wet.post(0, 1, 0, 0), 3);
    }

    private void refusedPosts() {
        b.says(23, "BAD; NONE: all are POSTS.");
        for (int size : SIZES) {
            HuntedScent x = Bounds.row(size, "");
            int all = (1 << size) - 1;
            for (int n = 0; n <= 3; n++) {
                b.due("all are posts, n is " + n, x.post(0, n, all, 0), Bounds.NONE);
                b.due("all are posts, n is " + n, x.post(size - 1, n, all, 1), Bounds.NONE);
            }
            for (int from : Bounds.noNodes(size)) {
                b.due("from " + from + " of " + size, x.post(from, 1, 0, 0), Bounds.BAD);
                b.due("all are posts, from " + from + " of " + size, x.post(from, 1, all, 1), Bounds.BAD);
            }
            for (int n : Bounds.beyond(0, 3)) {
                b.due("n is " + n, x.post(0, n, 0, 0), Bounds.BAD);
                b.due("all are posts, n is " + n, x.post(0, n, all, 1), Bounds.BAD);
            }
            for (int posts : Bounds.noBits(size)) {
                b.due("posts " + posts + " of " + size, x.post(0, 1, posts, 0), Bounds.BAD);
                b.due("posts " + posts + " of " + size, x.post(0, 1, posts, 1), Bounds.BAD);
            }
            for (int what : Bounds.beyond(0, 1)) {
                b.due("what is " + what, x.post(0, 1, 0, what), Bounds.BAD);
                b.due("all are posts, what is " + what, x.post(0, 1, all, what), Bounds.BAD);
            }
            for (int what = 10; what < 14; what++) {
                b.due("what is " + what, x.post(0, 3, 0, what), Bounds.BAD);
            }
        }
    }
}
