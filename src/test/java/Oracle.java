import java.util.ArrayList;
import java.util.Arrays;
import java.util.HashMap;
import java.util.HashSet;
import java.util.List;
import java.util.Map;
import java.util.Set;
import java.util.TreeSet;
import java.util.regex.Matcher;
import java.util.regex.Pattern;

/** The document said once more, as slowly and as plainly as can be, to hold the program against. */
final class Oracle {
    private static final int BAD = -1, STATE = -2, FULL = -3, NONE = -4;
    private static final int INFINITE = 1 << 20;

    /** All that an image keeps, and what a text tells beside it. */
    private static final class World {
        int nodes = 5;
        boolean rest = false;
        Integer start = null;
        Set<Integer> water = new TreeSet<>();
        Set<Integer> holes = new TreeSet<>();
        boolean[][] lane = new boolean[10][10];
        Integer fox = null;
        int moves = 0;
        int[] smells = new int[10];
        List<int[]> smelt = new ArrayList<>();

        World copy() {
            World w = new World();
            w.nodes = nodes;
            w.rest = rest;
            w.start = start;
            w.water = new TreeSet<>(water);
            w.holes = new TreeSet<>(holes);
            for (int i = 0; i < 10; i++) {
                w.lane[i] = lane[i].clone();
            }
            w.fox = fox;
            w.moves = moves;
            w.smells = smells.clone();
            for (int[] s : smelt) {
                w.smelt.add(s.clone());
            }
            return w;
        }

        List<Integer> joined(int i) {
            List<Integer> out = new ArrayList<>();
            for (int j = 0; j < nodes; j++) {
                if (lane[i][j]) {
                    out.add(j);
                }
            }
            return out;
        }

        List<Integer> moves(int i) {
            List<Integer> out = new ArrayList<>();
            for (int j = 0; j < nodes; j++) {
                if (lane[i][j] || rest && i == j) {
                    out.add(j);
                }
            }
            return out;
        }

        List<Integer> steps(int i) {
            List<Integer> out = moves(i);
            return out.isEmpty() ? List.of(i) : out;
        }

        int[] beginAt(int i) {
            int[] s = new int[10];
            s[i] = water.contains(i) ? 0 : 9;
            return s;
        }

        int[] moveTo(int[] s, int i) {
            int[] out = new int[10];
            for (int j = 0; j < 10; j++) {
                out[j] = Math.max(0, s[j] - 1);
            }
            out[i] = Math.min(18, out[i] + 9);
            for (int w : water) {
                out[w] = 0;
            }
            return out;
        }
    }

    private World w = new World();
    private final World[] images = new World[2];
    private final Object[] sheets = new Object[4];
    private final List<Integer> tape = new ArrayList<>();
    private int fault = 0;
    private int torn = 0;

    // ---- small words

    private boolean node(int i) {
        return i >= 0 && i < w.nodes;
    }

    private boolean nodes(int bits) {
        return bits >= 0 && bits < 1 << w.nodes;
    }

    private static int bits(Iterable<Integer> set) {
        int out = 0;
        for (int i : set) {
            out |= 1 << i;
        }
        return out;
    }

    private static List<Integer> set(int bits) {
        List<Integer> out = new ArrayList<>();
        for (int i = 0; i < 31; i++) {
            if ((bits & 1 << i) != 0) {
                out.add(i);
            }
        }
        return out;
    }

    // ---- the text, the net

    int feed(long v) {
        if (tape.size() + 8 > 320) {
            return FULL;
        }
        for (int shift = 56; shift >= 0; shift -= 8) {
            tape.add((int) (v >>> shift & 0xff));
        }
        return tape.size();
    }

    int end(int n) {
        if (n < 0 || n > tape.size()) {
            return BAD;
        }
        int had = tape.size();
        tape.subList(n, had).clear();
        return had;
    }

    private static final class Fault extends Exception {
        private static final long serialVersionUID = 1L;
        final int what, place;

        Fault(int what, int place) {
            this.what = what;
            this.place = place;
        }
    }

    private static final Pattern TOKEN = Pattern.compile(" *([a-z]+|[0-9]+|;)");
    private String tapeText;
    private int readTo, tokenPlace;

    /** The next token, or null at the end. */
    private String token() throws Fault {
        String rest = tapeText.substring(readTo);
        if (rest.replace(" ", "").isEmpty()) {
            tokenPlace = tapeText.length();
            return null;
        }
        Matcher m = TOKEN.matcher(rest);
        if (!m.lookingAt()) {
            int blanks = 0;
            while (rest.charAt(blanks) == ' ') {
                blanks++;
            }
            throw new Fault(1, readTo + blanks);
        }
        tokenPlace = readTo + m.start(1);
        readTo += m.end();
        String t = m.group(1);
        if (Character.isDigit(t.charAt(0)) && t.length() > 2) {
            throw new Fault(1, tokenPlace);
        }
        return t;
    }

    private int asNumber(String t, int low, int high) throws Fault {
        if (t == null || !t.matches("[0-9]+")) {
            throw new Fault(2, tokenPlace);
        }
        int v = Integer.parseInt(t);
        if (v < low || v > high) {
            throw new Fault(3, tokenPlace);
        }
        return v;
    }

    private void sign() throws Fault {
        if (!";".equals(token())) {
            throw new Fault(2, tokenPlace);
        }
    }

    private int told(World t) throws Fault {
        int lines = 0;
        Set<String> once = new HashSet<>();
        Set<Integer> named = new HashSet<>();
        for (String name = token(); name != null; name = token()) {
            if (!List.of("nodes", "rest", "start", "lane", "water", "hole", "smelt").contains(name)) {
                throw new Fault(2, tokenPlace);
            }
            if (List.of("nodes", "rest", "start").contains(name) && !once.add(name)) {
                throw new Fault(4, tokenPlace);
            }
            if (name.equals("smelt") && t.smelt.size() == 10) {
                throw new Fault(5, tokenPlace);
            }
            line(t, name, named);
            lines++;
        }
        for (int n : named) {
            if (n >= t.nodes) {
                throw new Fault(6, tapeText.length());
            }
        }
        return lines;
    }

    private void line(World t, String name, Set<Integer> named) throws Fault {
        switch (name) {
            case "nodes" -> t.nodes = asNumber(token(), 2, 10);
            case "rest" -> t.rest = true;
            case "start" -> {
                t.start = asNumber(token(), 0, 9);
                named.add(t.start);
            }
            case "water", "hole" -> {
                int n = asNumber(token(), 0, 9);
                named.add(n);
                if (!(name.equals("water") ? t.water : t.holes).add(n)) {
                    throw new Fault(4, tokenPlace);
                }
            }
            case "smelt" -> {
                int turn = asNumber(token(), 0, 5);
                int n = asNumber(token(), 0, 9);
                named.add(n);
                t.smelt.add(new int[] {turn, n, asNumber(token(), 0, 18)});
            }
            default -> {
                int before = asNumber(token(), 0, 9);
                named.add(before);
                String next = token();
                do {
                    int n = asNumber(next, 0, 9);
                    named.add(n);
                    if (n == before || t.lane[n][before]) {
                        throw new Fault(4, tokenPlace);
                    }
                    t.lane[n][before] = true;
                    t.lane[before][n] = true;
                    before = n;
                    next = token();
                } while (!";".equals(next));
            }
        }
        if (!name.equals("lane")) {
            sign();
        }
    }

    int text() {
        StringBuilder b = new StringBuilder();
        for (int i : tape) {
            b.append((char) i);
        }
        tapeText = b.toString();
        readTo = 0;
        tape.clear();
        World t = new World();
        try {
            int lines = told(t);
            w = t;
            images[0] = null;
            images[1] = null;
            fault = 0;
            return lines;
        } catch (Fault f) {
            fault = f.what;
            return -10 - f.place;
        }
    }

    int fault() {
        return fault;
    }

    int rule(int what) {
        int lanes = 0;
        for (int i = 0; i < w.nodes; i++) {
            for (int j = i + 1; j < w.nodes; j++) {
                lanes += w.lane[i][j] ? 1 : 0;
            }
        }
        return switch (what) {
            case 0 -> w.nodes;
            case 1 -> lanes;
            case 2 -> w.rest ? 1 : 0;
            case 3 -> w.start == null ? NONE : w.start;
            case 4 -> bits(w.water);
            case 5 -> bits(w.holes);
            default -> BAD;
        };
    }

    int lanes(int i) {
        return node(i) ? bits(w.joined(i)) : BAD;
    }

    int join(int a, int b, boolean is) {
        if (!node(a) || !node(b) || a == b) {
            return BAD;
        }
        boolean was = w.lane[a][b];
        w.lane[a][b] = is;
        w.lane[b][a] = is;
        return was ? 1 : 0;
    }

    int start(int i) {
        if (!node(i) && i != NONE) {
            return BAD;
        }
        int was = w.start == null ? NONE : w.start;
        w.start = i == NONE ? null : Integer.valueOf(i);
        return was;
    }

    private int[][] distances() {
        int[][] d = new int[10][10];
        for (int i = 0; i < 10; i++) {
            for (int j = 0; j < 10; j++) {
                d[i][j] = i == j ? 0 : w.lane[i][j] ? 1 : INFINITE;
            }
        }
        for (int k = 0; k < 10; k++) {
            for (int i = 0; i < 10; i++) {
                for (int j = 0; j < 10; j++) {
                    d[i][j] = Math.min(d[i][j], d[i][k] + d[k][j]);
                }
            }
        }
        return d;
    }

    int far(int a, int b) {
        if (!node(a) || !node(b)) {
            return BAD;
        }
        int d = distances()[a][b];
        return d >= INFINITE ? NONE : d;
    }

    // ---- the fox

    int fox(int i) {
        if (!node(i)) {
            return BAD;
        }
        w.fox = i;
        w.moves = 0;
        w.smells = w.beginAt(i);
        return w.smells[i];
    }

    int go(int i) {
        if (!node(i)) {
            return BAD;
        }
        if (w.fox == null) {
            return STATE;
        }
        if (!w.moves(w.fox).contains(i)) {
            return NONE;
        }
        w.fox = i;
        w.moves++;
        w.smells = w.moveTo(w.smells, i);
        return w.smells[i];
    }

    int smell(int i) {
        return node(i) ? w.smells[i] : BAD;
    }

    private static int strongest(List<Integer> nodes, int[] smells) {
        int best = NONE;
        for (int i : nodes) {
            if (smells[i] > 0 && (best == NONE || smells[i] > smells[best])) {
                best = i;
            }
        }
        return best;
    }

    int now(int what) {
        return switch (what) {
            case 0 -> w.fox == null ? NONE : w.fox;
            case 1 -> w.moves;
            case 2 -> w.fox == null ? NONE : strongest(w.joined(w.fox), w.smells);
            case 3 -> Arrays.stream(w.smells).sum();
            default -> BAD;
        };
    }

    // ---- ways

    int smelt(int turn, int i, int strong) {
        if (turn < 0 || turn > 5 || !node(i) || strong < 0 || strong > 18) {
            return BAD;
        }
        if (w.smelt.size() == 10) {
            return FULL;
        }
        w.smelt.add(new int[] {turn, i, strong});
        return w.smelt.size();
    }

    int forget(int n) {
        int were = w.smelt.size();
        if (n < 0 || n > were) {
            return BAD;
        }
        w.smelt.subList(n, were).clear();
        return were;
    }

    private void allWays(int[] way, int t, List<int[]> out) {
        if (t == way.length) {
            out.add(way.clone());
            return;
        }
        for (int m : w.moves(way[t - 1])) {
            way[t] = m;
            allWays(way, t + 1, out);
        }
    }

    private List<int[]> waysFrom(int from, int n) {
        List<int[]> out = new ArrayList<>();
        int[] way = new int[n + 1];
        way[0] = from;
        allWays(way, 1, out);
        return out;
    }

    private List<int[]> allWays(int n) {
        List<int[]> out = new ArrayList<>();
        for (int i = 0; i < w.nodes; i++) {
            if (w.start == null || w.start == i) {
                out.addAll(waysFrom(i, n));
            }
        }
        return out;
    }

    private int[][] smellsOf(int[] way) {
        int[][] out = new int[way.length][];
        for (int t = 0; t < way.length; t++) {
            out[t] = t == 0 ? w.beginAt(way[0]) : w.moveTo(out[t - 1], way[t]);
        }
        return out;
    }

    private boolean fits(int[] way, List<int[]> smelt) {
        int[][] s = smellsOf(way);
        for (int[] one : smelt) {
            if (one[0] < way.length && s[one[0]][one[1]] != one[2]) {
                return false;
            }
        }
        return true;
    }

    private List<int[]> fitting(int n) {
        List<int[]> out = new ArrayList<>();
        for (int[] way : allWays(n)) {
            if (fits(way, w.smelt)) {
                out.add(way);
            }
        }
        return out;
    }

    int ways(int n) {
        return n < 0 || n > 5 ? BAD : fitting(n).size();
    }

    int can(int n, int t) {
        if (n < 0 || n > 5 || t < 0 || t > n) {
            return BAD;
        }
        Set<Integer> there = new HashSet<>();
        for (int[] way : fitting(n)) {
            there.add(way[t]);
        }
        return bits(there);
    }

    int sure(int n, int t) {
        int can = can(n, t);
        return can == BAD ? BAD : set(can).size() == 1 ? set(can).get(0) : NONE;
    }

    int way(int n, int t) {
        if (n < 0 || n > 5 || t < 0 || t > n) {
            return BAD;
        }
        List<int[]> fit = fitting(n);
        return fit.isEmpty() ? NONE : fit.get(0)[t];
    }

    int cannot() {
        for (int k = 0; k < w.smelt.size(); k++) {
            boolean any = false;
            for (int[] way : allWays(5)) {
                any |= fits(way, w.smelt.subList(0, k + 1));
            }
            if (!any) {
                return k;
            }
        }
        return NONE;
    }

    // ---- doubt

    private String smeltAt(int[] way, int posts) {
        StringBuilder b = new StringBuilder();
        for (int[] s : smellsOf(way)) {
            for (int p : set(posts)) {
                b.append(s[p]).append(' ');
            }
        }
        return b.toString();
    }

    /** The most doubt (0: no way), then the nodes of the first way that has it. */
    private int[] mostDoubt(int from, int n, int posts) {
        Map<String, Set<Integer>> ends = new HashMap<>();
        List<int[]> ways = waysFrom(from, n);
        for (int[] way : ways) {
            ends.computeIfAbsent(smeltAt(way, posts), key -> new HashSet<>()).add(way[n]);
        }
        int[] out = new int[n + 2];
        for (int[] way : ways) {
            int doubt = ends.get(smeltAt(way, posts)).size();
            if (doubt > out[0]) {
                out[0] = doubt;
                System.arraycopy(way, 0, out, 1, n + 1);
            }
        }
        return out;
    }

    int doubt(int from, int n, int posts, int what) {
        if (!node(from) || n < 0 || n > 3 || !nodes(posts) || what != 0 && (what < 10 || what > 10 + n)) {
            return BAD;
        }
        int[] most = mostDoubt(from, n, posts);
        return what == 0 ? most[0] : most[0] == 0 ? NONE : most[what - 10 + 1];
    }

    int post(int from, int n, int posts, int what) {
        if (!node(from) || n < 0 || n > 3 || !nodes(posts) || what != 0 && what != 1) {
            return BAD;
        }
        int best = INFINITE, where = NONE;
        for (int i = 0; i < w.nodes; i++) {
            if (!set(posts).contains(i)) {
                int doubt = mostDoubt(from, n, posts + (1 << i))[0];
                if (doubt < best) {
                    best = doubt;
                    where = i;
                }
            }
        }
        return where == NONE ? NONE : what == 0 ? where : best;
    }

    // ---- casts

    private List<Integer> allCasts(int k) {
        List<Integer> out = new ArrayList<>();
        for (int c = 0; c < 1 << w.nodes; c++) {
            if (set(c).size() == Math.min(k, w.nodes)) {
                out.add(c);
            }
        }
        return out;
    }

    private int later(int some, int cast) {
        Set<Integer> out = new HashSet<>();
        for (int i : set(some & ~cast)) {
            out.addAll(w.steps(i));
        }
        return bits(out);
    }

    /** [s]: the fewest turns of a sure row for a fox on one of s, looked for from the end. */
    private int[] turnsBySet(int k) {
        int[] turns = new int[1 << w.nodes];
        Arrays.fill(turns, INFINITE);
        turns[0] = 0;
        List<Integer> casts = allCasts(k);
        for (boolean more = true; more;) {
            more = false;
            for (int s = 1; s < turns.length; s++) {
                for (int c : casts) {
                    int t = 1 + turns[later(s, c)];
                    if (t < turns[s]) {
                        turns[s] = t;
                        more = true;
                    }
                }
            }
        }
        return turns;
    }

    int casts(int k, int some, int what) {
        if (k < 1 || k > 5 || some == 0 || !nodes(some) || what != 0 && (what < 10 || what > 1033)) {
            return BAD;
        }
        int[] turns = turnsBySet(k);
        if (turns[some] >= INFINITE) {
            return NONE;
        }
        if (what == 0) {
            return turns[some];
        }
        int s = some;
        for (int t = 0; turns[s] > 0; t++) {
            for (int c : allCasts(k)) {
                if (turns[later(s, c)] == turns[s] - 1) {
                    if (t == what - 10) {
                        return c;
                    }
                    s = later(s, c);
                    break;
                }
            }
        }
        return NONE;
    }

    int need() {
        for (int k = 1; k <= 5; k++) {
            if (turnsBySet(k)[(1 << w.nodes) - 1] < INFINITE) {
                return k;
            }
        }
        return NONE;
    }

    int left(int some, int cast) {
        return nodes(some) && nodes(cast) ? later(some, cast) : BAD;
    }

    // ---- chases

    private List<Integer> houndSteps(int i) {
        List<Integer> out = w.joined(i);
        out.add(i);
        return out;
    }

    private int[][][] value;

    private int afterMove(int fox, int a, int b) {
        if (fox == a || fox == b) {
            return 0;
        }
        int least = INFINITE;
        for (int i : houndSteps(a)) {
            for (int j : houndSteps(b)) {
                least = Math.min(least, i == fox || j == fox ? 0 : value[fox][i][j]);
            }
        }
        return least;
    }

    private void play() {
        int n = w.nodes;
        value = new int[n][n][n];
        for (int[][] rows : value) {
            for (int[] row : rows) {
                Arrays.fill(row, INFINITE);
            }
        }
        for (boolean more = true; more;) {
            more = false;
            for (int f = 0; f < n; f++) {
                for (int a = 0; a < n; a++) {
                    for (int b = 0; b < n; b++) {
                        int v = 0;
                        if (f != a && f != b) {
                            for (int m : w.steps(f)) {
                                v = Math.max(v, Math.min(INFINITE, 1 + afterMove(m, a, b)));
                            }
                        }
                        more |= v != value[f][a][b];
                        value[f][a][b] = v;
                    }
                }
            }
        }
    }

    int caught(int fox, int a, int b) {
        if (!node(fox) || !node(a) || !node(b)) {
            return BAD;
        }
        play();
        return value[fox][a][b] >= INFINITE ? NONE : value[fox][a][b];
    }

    int flees(int fox, int a, int b) {
        if (!node(fox) || !node(a) || !node(b)) {
            return BAD;
        }
        if (fox == a || fox == b) {
            return STATE;
        }
        play();
        int best = NONE;
        for (int m : w.steps(fox)) {
            if (best == NONE || afterMove(m, a, b) > afterMove(best, a, b)) {
                best = m;
            }
        }
        return best;
    }

    int best(int what) {
        if (what != 0 && what != 1) {
            return BAD;
        }
        play();
        int least = INFINITE, pair = NONE;
        for (int a = 0; a < w.nodes; a++) {
            for (int b = a; b < w.nodes; b++) {
                int worst = 0;
                for (int f = 0; f < w.nodes; f++) {
                    worst = Math.max(worst, value[f][a][b]);
                }
                if (worst < least) {
                    least = worst;
                    pair = 10 * a + b;
                }
            }
        }
        return pair == NONE ? NONE : what == 0 ? pair : least;
    }

    // ---- holes

    /** All ways are gone, step by step, with rests if he may. */
    private void flee(int at, int step, int[] hound, boolean[][] been) {
        if (step >= 2 * w.nodes || been[at][step] || hound[at] <= step) {
            return;
        }
        been[at][step] = true;
        for (int m : w.moves(at)) {
            flee(m, step + 1, hound, been);
        }
    }

    private int openNow(int fox, int hounds) {
        int[][] d = distances();
        int[] hound = new int[10];
        Arrays.fill(hound, INFINITE);
        for (int h : set(hounds)) {
            for (int i = 0; i < 10; i++) {
                hound[i] = Math.min(hound[i], d[h][i]);
            }
        }
        boolean[][] been = new boolean[10][20];
        flee(fox, 0, hound, been);
        int out = 0;
        for (int h : w.holes) {
            for (boolean b : been[h]) {
                out |= b ? 1 << h : 0;
            }
        }
        return out;
    }

    int open(int fox, int hounds) {
        return node(fox) && nodes(hounds) ? openNow(fox, hounds) : BAD;
    }

    int stop(int fox, int hounds, int what) {
        if (!node(fox) || !nodes(hounds) || what != 0 && what != 1) {
            return BAD;
        }
        int least = set(openNow(fox, hounds)).size(), lane = NONE;
        for (int a = 0; a < w.nodes; a++) {
            for (int b = a + 1; b < w.nodes; b++) {
                if (join(a, b, false) == 1) {
                    int many = set(openNow(fox, hounds)).size();
                    join(a, b, true);
                    if (many < least) {
                        least = many;
                        lane = 10 * a + b;
                    }
                }
            }
        }
        return lane == NONE ? NONE : what == 0 ? lane : least;
    }

    // ---- seasons

    private int seed;

    private int draw(int k) {
        seed = seed * 1103515245 + 12345;
        return (seed >> 16 & 0x7fff) % k;
    }

    int season(int firstSeed, int n, int what) {
        if (n < 1 || n > 20 || what != 0 && what != 1) {
            return BAD;
        }
        seed = firstSeed;
        int caught = 0, turns = 0;
        for (int hunt = 0; hunt < n; hunt++) {
            int fox = draw(w.nodes);
            int hound = draw(w.nodes);
            int[] s = w.beginAt(fox);
            boolean is = false;
            for (int turn = 0; turn < 20 && !is; turn++) {
                turns++;
                List<Integer> moves = w.moves(fox);
                if (!moves.isEmpty()) {
                    fox = moves.get(draw(moves.size()));
                }
                s = w.moveTo(s, fox);
                if (fox != hound && !w.joined(hound).isEmpty()) {
                    List<Integer> next = w.joined(hound);
                    int strong = strongest(next, s);
                    hound = strong == NONE ? next.get(draw(next.size())) : strong;
                }
                is = fox == hound;
            }
            caught += is ? 1 : 0;
        }
        return what == 0 ? caught : turns;
    }

    // ---- images, sheets

    int keep(int k) {
        if (k != 0 && k != 1) {
            return BAD;
        }
        int was = images[k] == null ? 0 : 1;
        images[k] = w.copy();
        return was;
    }

    int back(int k) {
        if (k != 0 && k != 1) {
            return BAD;
        }
        if (images[k] == null) {
            return STATE;
        }
        w = images[k].copy();
        return w.fox == null ? NONE : w.fox;
    }

    int sheet(int k, int lane, int n) {
        if (k < 0 || k > 3 || lane < 0 || lane > 2 || n > 40) {
            return BAD;
        }
        try {
            sheets[k] = lane == 0 ? new byte[n] : lane == 1 ? new short[n] : new int[n];
            return 1;
        } catch (NegativeArraySizeException e) {
            return -14;
        }
    }

    int lay(int k, int i, int v) {
        if (k < 0 || k > 3) {
            return BAD;
        }
        try {
            if (sheets[k] instanceof byte[] row) {
                row[i] = (byte) v;
            } else if (sheets[k] instanceof short[] row) {
                row[i] = (short) v;
            } else {
                ((int[]) sheets[k])[i] = v;
            }
            return 1;
        } catch (NullPointerException e) {
            return -11;
        } catch (ArrayIndexOutOfBoundsException e) {
            return -12;
        }
    }

    /** What the machine itself says of these is what the document asks for. */
    private static int cell(Object sheet, int lane, long i) {
        int at = (int) Math.max(-1, Math.min(1000, i));
        return lane == 0 ? ((byte[]) sheet)[at] : lane == 1 ? ((short[]) sheet)[at] : ((int[]) sheet)[at];
    }

    int read(int k, int lane, int f, int n) {
        if (k < 0 || k > 3 || lane < 0 || lane > 2 || n < 0 || n > 10) {
            return BAD;
        }
        int had = w.smelt.size();
        int found = 0, i = 0;
        try {
            for (; i < n; i++) {
                int turn = cell(sheets[k], lane, f + 3L * i);
                int node = cell(sheets[k], lane, f + 3L * i + 1);
                int strong = cell(sheets[k], lane, f + 3L * i + 2);
                if (smelt(turn, node, strong) < 0) {
                    forget(had);
                    return -20 - i;
                }
            }
        } catch (NullPointerException e) {
            found = 1;
        } catch (ArrayIndexOutOfBoundsException e) {
            found = 2;
        } catch (ClassCastException e) {
            found = 3;
        }
        torn = found;
        return i;
    }

    int torn() {
        return torn;
    }

    int count(int what) {
        switch (what) {
            case 0: return w.smelt.size();
            case 1: return (int) Arrays.stream(w.smells).filter(s -> s > 0).count();
            case 2: return (images[0] == null ? 0 : 1) + (images[1] == null ? 0 : 1);
            case 3: return tape.size();
            case 4: return sheets[0] == null ? NONE : java.lang.reflect.Array.getLength(sheets[0]);
            default: return BAD;
        }
    }
}
