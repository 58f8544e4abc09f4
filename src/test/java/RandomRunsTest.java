import java.util.Random;

/** Long runs of calls drawn by fixed seeds, each answer held against the Oracle's. */
public final class RandomRunsTest {
    private static final int CALLS = 512;

    private final Check check;
    private final Random draw;
    private final HuntedScent x = new HuntedScent();
    private final Oracle o = new Oracle();
    private final int mostNodes;
    private int lastSome = 1, lastHounds = 1;

    private RandomRunsTest(Check check, long seed, int mostNodes) {
        this.check = check;
        this.draw = new Random(seed);
        this.mostNodes = mostNodes;
    }

    public static void main(String[] args) {
        int runs = args.length > 0 ? Integer.parseInt(args[0]) : 400;
        long first = args.length > 1 ? Long.parseLong(args[1]) : 1;
        Check check = new Check("random runs");
        for (int i = 0; i < runs; i++) {
            new RandomRunsTest(check, first + i, i % 15 == 14 ? 10 : 2 + i % 5).run(first + i);
        }
        check.done();
    }

    private int below(int n) {
        return draw.nextInt(n);
    }

    private boolean rarely() {
        return below(12) == 0;
    }

    /** A node most often, else some number that is none. */
    private int node() {
        if (rarely()) {
            int[] odd = {-1, NONE, 10, 31, 32, Integer.MAX_VALUE, Integer.MIN_VALUE, x.rule(0)};
            return odd[below(odd.length)];
        }
        return below(x.rule(0));
    }

    private static final int NONE = HuntedScent.NONE;

    private int bits() {
        return rarely() ? draw.nextInt() >> below(31) : below(1 << x.rule(0));
    }

    private int number(int low, int high) {
        if (rarely()) {
            int[] odd = {low - 1, high + 1, Integer.MAX_VALUE, Integer.MIN_VALUE, -1, 0};
            return odd[below(odd.length)];
        }
        return low + below(high - low + 1);
    }

    private void due(String call, int got, int want) {
        check.due(call, got, want);
    }

    private void run(long seed) {
        tellText(false);
        for (int calls = 0; calls < CALLS; calls++) {
            call("seed " + seed + " call " + calls + ": ");
        }
    }

    private void call(String where) {
        int group = below(26);
        if (group < 1) {
            tellText(below(2) == 0);
        } else if (group < 6) {
            netCall(where);
        } else if (group < 10) {
            foxCall(where);
        } else if (group < 15) {
            waysCall(where);
        } else if (group < 17) {
            doubtCall(where);
        } else if (group < 19) {
            castsCall(where);
        } else if (group < 21) {
            chaseCall(where);
        } else if (group < 23) {
            holesCall(where);
        } else {
            keptCall(where);
        }
    }

    // ---- texts

    private String gap() {
        return below(6) == 0 ? "  " : " ";
    }

    private String told(int n) {
        return (below(9) == 0 && n < 10 ? "0" : "") + n;
    }

    private String textLine(int nodes) {
        int n = below(nodes);
        switch (below(12)) {
            case 0: return "rest" + (below(2) == 0 ? " " : "");
            case 1: return "start" + gap() + told(n);
            case 2: return "water " + told(n);
            case 3: return "hole" + told(n);
            case 4:
            case 5: return "smelt " + below(6) + gap() + told(n) + " " + below(19);
            default:
                StringBuilder b = new StringBuilder("lane ").append(n);
                int steps = 1 + below(4);
                for (int i = 0; i < steps; i++) {
                    n = (n + 1 + below(nodes - 1)) % nodes;
                    b.append(gap()).append(told(n));
                }
                return b.toString();
        }
    }

    private String text() {
        int nodes = 2 + below(mostNodes - 1);
        StringBuilder b = new StringBuilder();
        int lines = below(14);
        int tells = below(lines + 1);
        for (int i = 0; i < lines; i++) {
            if (i == tells) {
                b.append("nodes ").append(nodes).append(';');
            }
            b.append(textLine(nodes)).append(gap().substring(1)).append(';');
        }
        return b.length() > 300 ? b.substring(0, 300) : b.toString();
    }

    private String spoilt(String text) {
        StringBuilder b = new StringBuilder(text);
        String signs = "0123456789;; abz,.N\n\u0000\u00e9";
        for (int i = below(3); i >= 0 && b.length() > 0; i--) {
            int at = below(b.length());
            switch (below(4)) {
                case 0: b.deleteCharAt(at); break;
                case 1: b.insert(at, signs.charAt(below(signs.length()))); break;
                case 2: b.setCharAt(at, signs.charAt(below(signs.length()))); break;
                default: b.setLength(at); break;
            }
        }
        return b.toString();
    }

    /** Told till one is taken, so that few runs go on without a net. */
    private void tellText(boolean once) {
        for (int tries = 0; tries < 40; tries++) {
            String text = text();
            if (below(3) == 0) {
                text = spoilt(text);
            }
            type(text);
            int got = x.text();
            due("text() of '" + text + "'", got, o.text());
            due("fault() of '" + text + "'", x.fault(), o.fault());
            if (once || got > 0) {
                break;
            }
        }
        for (int what = -1; what < 7; what++) {
            due("rule(" + what + ")", x.rule(what), o.rule(what));
        }
    }

    private void type(String text) {
        int had = x.count(3);
        if (had + text.length() > 312) {
            due("end(0)", x.end(0), o.end(0));
            had = 0;
        }
        for (int i = 0; i < text.length(); i += 8) {
            long v = 0;
            for (int j = i; j < i + 8; j++) {
                v = v << 8 | (j < text.length() ? text.charAt(j) : 'z');
            }
            due("feed(" + v + ")", x.feed(v), o.feed(v));
        }
        due("end()", x.end(had + text.length()), o.end(had + text.length()));
    }

    // ---- calls

    private void netCall(String where) {
        int a = node(), b = node();
        switch (below(8)) {
            case 0: {
                long v = draw.nextLong();
                due(where + "feed " + v, x.feed(v), o.feed(v));
                break;
            }
            case 1: {
                int n = number(0, 30);
                due(where + "end " + n, x.end(n), o.end(n));
                break;
            }
            case 2: due(where + "lanes " + a, x.lanes(a), o.lanes(a)); break;
            case 3:
            case 4: {
                boolean is = below(3) > 0;
                due(where + "join " + a + " " + b + " " + is, x.join(a, b, is), o.join(a, b, is));
                break;
            }
            case 5: due(where + "start " + a, x.start(a), o.start(a)); break;
            case 6: due(where + "start none", x.start(NONE), o.start(NONE)); break;
            default: due(where + "far " + a + " " + b, x.far(a, b), o.far(a, b)); break;
        }
        due(where + "rule(1)", x.rule(1), o.rule(1));
        due(where + "rule(3)", x.rule(3), o.rule(3));
    }

    private void foxCall(String where) {
        int i = node();
        int what = number(0, 3);
        switch (below(8)) {
            case 0: due(where + "fox " + i, x.fox(i), o.fox(i)); break;
            case 1: due(where + "smell " + i, x.smell(i), o.smell(i)); break;
            case 2: due(where + "now " + what, x.now(what), o.now(what)); break;
            default: due(where + "go " + i, x.go(i), o.go(i)); break;
        }
        for (int k = 0; k < 4; k++) {
            due(where + "now " + k, x.now(k), o.now(k));
        }
    }

    /** Told of a way that there is, more often than not, so that ways fit. */
    private void smeltCall(String where) {
        int turn = number(0, 5), i = node(), strong = number(0, 18);
        if (below(4) > 0) {
            strong = new int[] {0, 0, 9, 8, 7, 16, 6}[below(7)];
        }
        due(where + "smelt " + turn + " " + i + " " + strong, x.smelt(turn, i, strong), o.smelt(turn, i, strong));
    }

    private void waysCall(String where) {
        int n = number(0, mostNodes > 6 ? 4 : 5), t = number(0, Math.max(0, Math.min(5, n)));
        switch (below(9)) {
            case 0:
            case 1: smeltCall(where); break;
            case 2: {
                int keeps = number(0, Math.max(0, x.count(0)));
                due(where + "forget " + keeps, x.forget(keeps), o.forget(keeps));
                break;
            }
            case 3:
            case 4: due(where + "ways " + n, x.ways(n), o.ways(n)); break;
            case 5: due(where + "can " + n + " " + t, x.can(n, t), o.can(n, t)); break;
            case 6: due(where + "sure " + n + " " + t, x.sure(n, t), o.sure(n, t)); break;
            case 7: due(where + "way " + n + " " + t, x.way(n, t), o.way(n, t)); break;
            default:
                if (mostNodes <= 6) {
                    due(where + "cannot", x.cannot(), o.cannot());
                }
                break;
        }
    }

    private void doubtCall(String where) {
        int from = node(), n = number(0, 3), posts = bits();
        int what = below(2) == 0 ? number(0, 1) : number(10, 13);
        String told = from + " " + n + " " + posts + " " + what;
        due(where + "doubt " + told, x.doubt(from, n, posts, what), o.doubt(from, n, posts, what));
        what = number(0, 1);
        due(where + "post " + told, x.post(from, n, posts, what), o.post(from, n, posts, what));
    }

    private void castsCall(String where) {
        if (mostNodes > 6 && below(8) > 0) {
            return;
        }
        if (below(2) == 0) {
            lastSome = bits();
            lastHounds = number(1, x.rule(0) < 6 ? 3 : 5);
        }
        int what = below(3) == 0 ? 0 : number(10, 17);
        String told = lastHounds + " " + lastSome + " " + what;
        due(where + "casts " + told, x.casts(lastHounds, lastSome, what), o.casts(lastHounds, lastSome, what));
        int some = bits(), cast = bits();
        due(where + "left " + some + " " + cast, x.left(some, cast), o.left(some, cast));
        if (below(4) == 0) {
            due(where + "need", x.need(), o.need());
        }
    }

    private void chaseCall(String where) {
        int fox = node(), a = node(), b = node(), what = number(0, 1);
        String told = fox + " " + a + " " + b;
        int first = below(3);
        for (int i = first; i < first + 3; i++) {
            switch (i % 3) {
                case 0: due(where + "caught " + told, x.caught(fox, a, b), o.caught(fox, a, b)); break;
                case 1: due(where + "flees " + told, x.flees(fox, a, b), o.flees(fox, a, b)); break;
                default: due(where + "best " + what, x.best(what), o.best(what)); break;
            }
        }
    }

    private void holesCall(String where) {
        int fox = node(), hounds = bits() & (below(2) == 0 ? -1 : bits()), what = number(0, 1);
        String told = fox + " " + hounds;
        due(where + "open " + told, x.open(fox, hounds), o.open(fox, hounds));
        due(where + "stop " + told + " " + what, x.stop(fox, hounds, what), o.stop(fox, hounds, what));
        int seed = draw.nextInt(), n = number(1, 20);
        told = seed + " " + n + " " + what;
        due(where + "season " + told, x.season(seed, n, what), o.season(seed, n, what));
    }

    private void keptCall(String where) {
        int k = number(0, 1), s = number(0, 3), lane = below(3) == 0 ? number(0, 2) : 0;
        int n = number(0, below(4) == 0 ? 40 : 12), what = number(0, 4), i = number(0, 14);
        int v = below(3) == 0 ? draw.nextInt() : number(0, 18);
        int f = number(0, 9), reads = number(0, below(3) == 0 ? 10 : 3);
        switch (below(10)) {
            case 0: due(where + "keep " + k, x.keep(k), o.keep(k)); break;
            case 1: due(where + "back " + k, x.back(k), o.back(k)); break;
            case 2: due(where + "sheet " + s, x.sheet(s, lane, n), o.sheet(s, lane, n)); break;
            case 3: due(where + "count " + what, x.count(what), o.count(what)); break;
            case 4:
            case 5: due(where + "lay " + s + " " + i + " " + v, x.lay(s, i, v), o.lay(s, i, v)); break;
            case 6: fillSheet(where, s); break;
            default:
                String told = s + " " + lane + " " + f + " " + reads;
                due(where + "read " + told, x.read(s, lane, f, reads), o.read(s, lane, f, reads));
                break;
        }
        due(where + "torn", x.torn(), o.torn());
        due(where + "count(0)", x.count(0), o.count(0));
        due(where + "count(4)", x.count(4), o.count(4));
    }

    private void fillSheet(String where, int s) {
        int v = below(7);
        for (int i = 0; i < 12; i++) {
            due(where + "lay " + s + " " + i, x.lay(s, i, v + i % 3), o.lay(s, i, v + i % 3));
        }
    }
}
