import java.util.LinkedHashMap;
import java.util.Map;

/** All that can be asked of an object, asked so that two can be held side by side. Uses the objects up. */
final class Look {
    private static final int MOST_CELLS_SEEN = 12;

    private final HuntedScent x;
    private final Map<String, Integer> seen = new LinkedHashMap<>();

    private Look(HuntedScent x) {
        this.x = x;
    }

    /** What they answer otherwise, or nothing. */
    static String unlike(HuntedScent x, HuntedScent y) {
        return unlikeBut("", x, y);
    }

    /** What they answer otherwise, one call aside. */
    static String unlikeBut(String aside, HuntedScent x, HuntedScent y) {
        Map<String, Integer> a = at(x), b = at(y);
        a.remove(aside);
        b.remove(aside);
        StringBuilder out = new StringBuilder();
        for (String call : a.keySet()) {
            if (!a.get(call).equals(b.get(call))) {
                out.append(call).append(" is ").append(a.get(call)).append(", was ").append(b.get(call)).append("; ");
            }
        }
        return a.keySet().equals(b.keySet()) ? out.toString() : out + "how much there is to be seen; ";
    }

    private static Map<String, Integer> at(HuntedScent x) {
        Look look = new Look(x);
        look.all();
        if (look.seen.size() > 440) {
            throw new IllegalStateException("too many calls of an object");
        }
        return look.seen;
    }

    private void all() {
        see("fault()", x.fault());
        see("torn()", x.torn());
        world("");
        image(0);
        image(1);
        for (int k = 0; k < 4; k++) {
            sheet(k);
        }
        see("text()", x.text());
        see("fault() of it", x.fault());
        net("text told: ");
        smelt("text told: ");
    }

    private void see(String call, int answer) {
        seen.put(call, answer);
    }

    private void world(String when) {
        int nodes = net(when);
        for (int what = 0; what < 4; what++) {
            see(when + "now(" + what + ")", x.now(what));
        }
        for (int i = 0; i < nodes; i++) {
            see(when + "smell(" + i + ")", x.smell(i));
        }
        for (int what = 1; what < 5; what++) {
            see(when + "count(" + what + ")", x.count(what));
        }
        smelt(when);
    }

    private int net(String when) {
        int nodes = x.rule(0);
        see(when + "rule(0)", nodes);
        for (int what = 1; what < 6; what++) {
            see(when + "rule(" + what + ")", x.rule(what));
        }
        for (int i = 0; i < nodes; i++) {
            see(when + "lanes(" + i + ")", x.lanes(i));
        }
        return nodes;
    }

    private void smelt(String when) {
        for (int n = x.count(0); n >= 0; n--) {
            see(when + "forget(" + n + ")", x.forget(n));
            for (int turns = 0; turns < 6; turns++) {
                see(when + "ways(" + turns + ") of " + n, x.ways(turns));
            }
        }
    }

    private void image(int k) {
        int answer = x.back(k);
        see("back(" + k + ")", answer);
        if (answer != HuntedScent.STATE) {
            world("image " + k + ": ");
        }
    }

    private void sheet(int k) {
        for (int lane = 0; lane < 3; lane++) {
            String when = "sheet " + k + " as of lane " + lane + ": ";
            see(when + "read() of one", x.read(k, lane, 0, 1));
            see(when + "torn()", x.torn());
            if (x.torn() == 0) {
                cells(when, k, lane);
            }
        }
        for (int i = 0; i <= MOST_CELLS_SEEN; i++) {
            see("lay(" + k + ", " + i + ", 0)", x.lay(k, i, 0));
        }
    }

    private void cells(String when, int k, int lane) {
        for (int f = 0; f < MOST_CELLS_SEEN; f += 3) {
            x.forget(0);
            see(when + "read() from " + f, x.read(k, lane, f, 1));
            see(when + "ways(0) by cells from " + f, x.ways(0));
            see(when + "ways(5) by cells from " + f, x.ways(5));
        }
    }
}
