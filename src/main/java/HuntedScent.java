/**
 * A fox in a net of lanes, and what his smell tells of his ways. The document
 * ../shared/DOC.md says what each call answers; words in capitals are its Terms.
 */
public final class HuntedScent {
    public static final int BAD = -1, STATE = -2, FULL = -3, NONE = -4;

    private static final int FEWEST_NODES = 2, MOST_NODES = 10, NODES_AT_FIRST = 5;
    private static final int FRESH = 9, STRONGEST = 18;
    private static final int LAST_TURN = 5, LAST_DOUBT_TURN = 3;
    private static final int MOST_SMELT = 10, CELLS_OF_A_SMELT = 3;
    private static final int TAPE_BYTES = 320, BYTES_FED = 8;
    private static final int MOST_HOUNDS = 5, NODE_SETS = 1 << MOST_NODES;
    private static final int MOST_HUNTS = 20, TURNS_OF_A_HUNT = 20;
    private static final int IMAGES = 2, SHEETS = 4, MOST_CELLS = 40;
    private static final int BYTES_LANE = 0, SHORTS_LANE = 1, INTS_LANE = 2;
    private static final int FAULT_NULL = 1, FAULT_INDEX = 2, FAULT_CAST = 3, FAULT_SIZE = 4;
    /** What is asked for with this and t is told of TURN t. */
    private static final int BY_TURN = 10;

    private final Net net = new Net();
    private final Trail trail = new Trail();
    private final Notes notes = new Notes();
    private final Reader reader = new Reader();
    private final Wayfinder wayfinder = new Wayfinder(net, notes);
    private final Doubter doubter = new Doubter(net);
    private final Caster caster = new Caster(net);
    private final Chase chase = new Chase(net);
    private final Seasons seasons = new Seasons(net);
    private final Image[] images = new Image[IMAGES];
    private final Sheet[] sheets = new Sheet[SHEETS];
    private int torn = 0;

    public HuntedScent() {
        for (int k = 0; k < IMAGES; k++) {
            images[k] = new Image();
        }
        for (int k = 0; k < SHEETS; k++) {
            sheets[k] = new Sheet();
        }
    }

    // ---- the text, the net

    public int feed(long v) {
        return reader.append(v);
    }

    public int end(int n) {
        return reader.shorten(n);
    }

    public int text() {
        int answer = reader.readAll();
        if (answer >= 0) {
            net.copyFrom(reader.net);
            notes.copyFrom(reader.notes);
            trail.clear();
            for (int k = 0; k < IMAGES; k++) {
                images[k].there = false;
            }
        }
        return answer;
    }

    public int fault() {
        return reader.fault;
    }

    public int rule(int what) {
        switch (what) {
            case 0: return net.nodes;
            case 1: return net.laneCount();
            case 2: return net.rest;
            case 3: return net.startsAt;
            case 4: return net.water;
            case 5: return net.holes;
            default: return BAD;
        }
    }

    public int lanes(int i) {
        return net.has(i) ? net.joinedTo(i) : BAD;
    }

    public int join(int a, int b, boolean is) {
        if (!net.has(a) || !net.has(b) || a == b) {
            return BAD;
        }
        int were = net.areJoined(a, b) ? 1 : 0;
        net.tie(a, b, is);
        return were;
    }

    public int start(int i) {
        if (i != NONE && !net.has(i)) {
            return BAD;
        }
        int was = net.startsAt;
        net.tellStart(i);
        return was;
    }

    public int far(int a, int b) {
        return net.has(a) && net.has(b) ? net.stepsBetween(a, b) : BAD;
    }

    // ---- the fox

    public int fox(int i) {
        if (!net.has(i)) {
            return BAD;
        }
        trail.begin(i, net.water);
        return trail.smellOf(i);
    }

    public int go(int i) {
        if (!net.has(i)) {
            return BAD;
        }
        if (trail.place == NONE) {
            return STATE;
        }
        if (!isIn(net.movesOf(trail.place), i)) {
            return NONE;
        }
        trail.move(i, net.water);
        return trail.smellOf(i);
    }

    public int smell(int i) {
        return net.has(i) ? trail.smellOf(i) : BAD;
    }

    public int now(int what) {
        switch (what) {
            case 0: return trail.place;
            case 1: return trail.moves;
            case 2: return trail.strongestOf(net.joinedTo(trail.place));
            case 3: return trail.sum();
            default: return BAD;
        }
    }

    // ---- ways

    public int smelt(int turn, int i, int strong) {
        if (turn < 0 || turn > LAST_TURN || !net.has(i) || strong < 0 || strong > STRONGEST) {
            return BAD;
        }
        return notes.add(turn, i, strong) ? notes.size : FULL;
    }

    public int forget(int n) {
        if (n < 0 || n > notes.size) {
            return BAD;
        }
        int were = notes.size;
        notes.cut(n);
        return were;
    }

    public int ways(int n) {
        if (!isTurnOf(LAST_TURN, n)) {
            return BAD;
        }
        wayfinder.search(n);
        return wayfinder.total;
    }

    public int can(int n, int t) {
        if (!isTurnOf(LAST_TURN, n) || !isTurnOf(n, t)) {
            return BAD;
        }
        wayfinder.search(n);
        return wayfinder.reached[t];
    }

    public int sure(int n, int t) {
        if (!isTurnOf(LAST_TURN, n) || !isTurnOf(n, t)) {
            return BAD;
        }
        wayfinder.search(n);
        int bits = wayfinder.reached[t];
        return Integer.bitCount(bits) == 1 ? leastOf(bits) : NONE;
    }

    public int way(int n, int t) {
        if (!isTurnOf(LAST_TURN, n) || !isTurnOf(n, t)) {
            return BAD;
        }
        wayfinder.search(n);
        return wayfinder.total > 0 ? wayfinder.first[t] : NONE;
    }

    public int cannot() {
        return wayfinder.firstImpossible();
    }

    // ---- doubt

    public int doubt(int from, int n, int posts, int what) {
        if (!isDoubtAsked(from, n, posts) || !(what == 0 || isTurnOf(n, (long) what - BY_TURN))) {
            return BAD;
        }
        doubter.search(from, n, posts);
        if (what == 0) {
            return doubter.most;
        }
        return doubter.most > 0 ? doubter.nodeOfTurn(what - BY_TURN) : NONE;
    }

    public int post(int from, int n, int posts, int what) {
        if (!isDoubtAsked(from, n, posts) || what < 0 || what > 1) {
            return BAD;
        }
        int node = NONE, least = NONE;
        for (int i = 0; i < net.nodes; i++) {
            if (!isIn(posts, i)) {
                doubter.search(from, n, posts | 1 << i);
                if (node == NONE || doubter.most < least) {
                    node = i;
                    least = doubter.most;
                }
            }
        }
        return what == 0 ? node : least;
    }

    private boolean isDoubtAsked(int from, int n, int posts) {
        return net.has(from) && isTurnOf(LAST_DOUBT_TURN, n) && net.hasAll(posts);
    }

    // ---- casts

    public int casts(int k, int some, int what) {
        boolean isTurn = isTurnOf(NODE_SETS - 1, (long) what - BY_TURN);
        if (k < 1 || k > MOST_HOUNDS || some == 0 || !net.hasAll(some) || !(what == 0 || isTurn)) {
            return BAD;
        }
        caster.search(k, some);
        if (what == 0) {
            return caster.turns > 0 ? caster.turns : NONE;
        }
        return caster.castOfTurn(what - BY_TURN);
    }

    public int need() {
        for (int k = 1; k <= MOST_HOUNDS; k++) {
            caster.search(k, net.all());
            if (caster.turns > 0) {
                return k;
            }
        }
        return NONE;
    }

    public int left(int some, int cast) {
        return net.hasAll(some) && net.hasAll(cast) ? net.stepsOfAll(some & ~cast) : BAD;
    }

    // ---- chases

    public int caught(int fox, int a, int b) {
        if (!net.has(fox) || !net.has(a) || !net.has(b)) {
            return BAD;
        }
        chase.solve();
        return chase.turnsOf(fox, a, b);
    }

    public int flees(int fox, int a, int b) {
        if (!net.has(fox) || !net.has(a) || !net.has(b)) {
            return BAD;
        }
        if (fox == a || fox == b) {
            return STATE;
        }
        chase.solve();
        return chase.bestMove(fox, a, b);
    }

    public int best(int what) {
        if (what < 0 || what > 1) {
            return BAD;
        }
        chase.solve();
        int pair = NONE, fewest = NONE;
        for (int a = 0; a < net.nodes; a++) {
            for (int b = a; b < net.nodes; b++) {
                int worst = chase.worstFrom(a, b);
                if (worst != NONE && (pair == NONE || worst < fewest)) {
                    pair = pairOf(a, b);
                    fewest = worst;
                }
            }
        }
        return what == 0 ? pair : fewest;
    }

    // ---- holes

    public int open(int fox, int hounds) {
        return net.has(fox) && net.hasAll(hounds) ? net.openTo(fox, hounds) : BAD;
    }

    public int stop(int fox, int hounds, int what) {
        if (!net.has(fox) || !net.hasAll(hounds) || what < 0 || what > 1) {
            return BAD;
        }
        int lane = NONE, fewest = Integer.bitCount(net.openTo(fox, hounds));
        for (int a = 0; a < net.nodes; a++) {
            for (int b = a + 1; b < net.nodes; b++) {
                if (net.areJoined(a, b)) {
                    int still = Integer.bitCount(net.openWithout(a, b, fox, hounds));
                    if (still < fewest) {
                        lane = pairOf(a, b);
                        fewest = still;
                    }
                }
            }
        }
        return what == 0 || lane == NONE ? lane : fewest;
    }

    // ---- seasons

    public int season(int seed, int n, int what) {
        if (n < 1 || n > MOST_HUNTS || what < 0 || what > 1) {
            return BAD;
        }
        seasons.run(seed, n);
        return what == 0 ? seasons.caughtFoxes : seasons.turns;
    }

    // ---- images, sheets

    public int keep(int k) {
        if (k < 0 || k >= IMAGES) {
            return BAD;
        }
        Image image = images[k];
        int was = image.there ? 1 : 0;
        image.there = true;
        image.net.copyFrom(net);
        image.trail.copyFrom(trail);
        image.notes.copyFrom(notes);
        return was;
    }

    public int back(int k) {
        if (k < 0 || k >= IMAGES) {
            return BAD;
        }
        Image image = images[k];
        if (!image.there) {
            return STATE;
        }
        net.copyFrom(image.net);
        trail.copyFrom(image.trail);
        notes.copyFrom(image.notes);
        return trail.place;
    }

    public int sheet(int k, int lane, int n) {
        if (k < 0 || k >= SHEETS || !isLaneOfCells(lane) || n > MOST_CELLS) {
            return BAD;
        }
        if (n < 0) {
            return -10 - FAULT_SIZE;
        }
        sheets[k].make(lane, n);
        return 1;
    }

    public int lay(int k, int i, int v) {
        if (k < 0 || k >= SHEETS) {
            return BAD;
        }
        int fault = sheets[k].faultOf(i, 1);
        if (fault != 0) {
            return -10 - fault;
        }
        sheets[k].put(i, v);
        return 1;
    }

    public int read(int k, int lane, int f, int n) {
        if (k < 0 || k >= SHEETS || !isLaneOfCells(lane) || n < 0 || n > MOST_SMELT) {
            return BAD;
        }
        Sheet sheet = sheets[k];
        int ahead = notes.size;
        for (int i = 0; i < n; i++) {
            int cell = f + CELLS_OF_A_SMELT * i;
            int fault = sheet.faultAs(lane, cell, CELLS_OF_A_SMELT);
            if (fault != 0) {
                torn = fault;
                return i;
            }
            if (smelt(sheet.valueOf(cell), sheet.valueOf(cell + 1), sheet.valueOf(cell + 2)) < 0) {
                notes.cut(ahead);
                return -20 - i;
            }
        }
        torn = 0;
        return n;
    }

    public int torn() {
        return torn;
    }

    public int count(int what) {
        switch (what) {
            case 0: return notes.size;
            case 1: return trail.smelling();
            case 2: return imagesThere();
            case 3: return reader.size;
            case 4: return sheets[0].size;
            default: return BAD;
        }
    }

    private int imagesThere() {
        int there = 0;
        for (int k = 0; k < IMAGES; k++) {
            there += images[k].there ? 1 : 0;
        }
        return there;
    }

    // ---- what all parts use

    private static boolean isLaneOfCells(int lane) {
        return lane == BYTES_LANE || lane == SHORTS_LANE || lane == INTS_LANE;
    }

    /** t is a long, so that what a caller takes an offset from does not wrap around. */
    private static boolean isTurnOf(int last, long t) {
        return t >= 0 && t <= last;
    }

    private static boolean isIn(int bits, int node) {
        return (bits >> node & 1) != 0;
    }

    private static int leastOf(int bits) {
        for (int i = 0; i < MOST_NODES; i++) {
            if ((bits >> i & 1) != 0) {
                return i;
            }
        }
        return NONE;
    }

    private static int pairOf(int a, int b) {
        return 10 * a + b;
    }

    /** What a text tells of the net. */
    private static final class Net {
        private final int[] joined = new int[MOST_NODES];
        private int nodes = NODES_AT_FIRST;
        private int rest = 0;
        private int startsAt = NONE;
        private int water = 0;
        private int holes = 0;
        /** By this those who keep what they found see that the net is no longer the same. */
        private int changes = 0;

        private void clear() {
            for (int i = 0; i < MOST_NODES; i++) {
                joined[i] = 0;
            }
            nodes = NODES_AT_FIRST;
            rest = 0;
            startsAt = NONE;
            water = 0;
            holes = 0;
            changes++;
        }

        private void copyFrom(Net other) {
            for (int i = 0; i < MOST_NODES; i++) {
                joined[i] = other.joined[i];
            }
            nodes = other.nodes;
            rest = other.rest;
            startsAt = other.startsAt;
            water = other.water;
            holes = other.holes;
            changes++;
        }

        private boolean has(int i) {
            return i >= 0 && i < nodes;
        }

        private boolean hasAll(int bits) {
            return (bits & ~all()) == 0;
        }

        private int all() {
            return (1 << nodes) - 1;
        }

        /** A text ties nodes before it tells how many there are, so any of the ten will do. */
        private int joinedTo(int i) {
            return i >= 0 && i < MOST_NODES ? joined[i] : 0;
        }

        private boolean areJoined(int a, int b) {
            return isIn(joinedTo(a), b);
        }

        private void tie(int a, int b, boolean is) {
            if (a < 0 || a >= MOST_NODES || b < 0 || b >= MOST_NODES) {
                return;
            }
            joined[a] = is ? joined[a] | 1 << b : joined[a] & ~(1 << b);
            joined[b] = is ? joined[b] | 1 << a : joined[b] & ~(1 << a);
            changes++;
        }

        private void tellStart(int i) {
            startsAt = i;
            changes++;
        }

        private int laneCount() {
            int ends = 0;
            for (int i = 0; i < MOST_NODES; i++) {
                ends += Integer.bitCount(joined[i]);
            }
            return ends / 2;
        }

        private int beginnings() {
            return has(startsAt) ? 1 << startsAt : all();
        }

        private int movesOf(int i) {
            return has(i) ? joinedTo(i) | rest << i : 0;
        }

        private int movesOfAll(int bits) {
            int moves = 0;
            for (int i = 0; i < nodes; i++) {
                moves |= isIn(bits, i) ? movesOf(i) : 0;
            }
            return moves;
        }

        /** As movesOf, but who can not move stays. */
        private int stepsOf(int i) {
            int moves = movesOf(i);
            return moves != 0 || !has(i) ? moves : 1 << i;
        }

        private int stepsOfAll(int bits) {
            int steps = 0;
            for (int i = 0; i < nodes; i++) {
                steps |= isIn(bits, i) ? stepsOf(i) : 0;
            }
            return steps;
        }

        private int neighboursOfAll(int bits) {
            int found = 0;
            for (int i = 0; i < nodes; i++) {
                found |= isIn(bits, i) ? joinedTo(i) : 0;
            }
            return found;
        }

        private int stepsBetween(int a, int b) {
            int within = 1 << a;
            for (int steps = 0; steps < nodes; steps++) {
                if (isIn(within, b)) {
                    return steps;
                }
                within |= neighboursOfAll(within);
            }
            return NONE;
        }

        /** He never gains by coming to a node later than he could, so one wave of his is enough. */
        private int openTo(int fox, int hounds) {
            int taken = hounds;
            int front = 1 << fox & ~taken;
            int been = front;
            for (int steps = 1; steps < nodes && front != 0; steps++) {
                taken |= neighboursOfAll(taken);
                front = neighboursOfAll(front) & ~taken & ~been;
                been |= front;
            }
            return been & holes;
        }

        private int openWithout(int a, int b, int fox, int hounds) {
            tie(a, b, false);
            int open = openTo(fox, hounds);
            tie(a, b, true);
            return open;
        }
    }

    /** A fox who is seen by nobody but his smell: where he is, and what he left. */
    private static final class Trail {
        private final int[] smells = new int[MOST_NODES];
        private int place = NONE;
        private int moves = 0;

        /** The smells behind a move to a node; ahead and behind may be the same row. */
        private static void pass(int[] ahead, int[] behind, int node, int water) {
            for (int i = 0; i < MOST_NODES && i < ahead.length && i < behind.length; i++) {
                behind[i] = fadedOf(ahead[i]);
            }
            if (node >= 0 && node < behind.length) {
                behind[node] = freshenedOf(behind[node], isIn(water, node));
            }
        }

        private static int fadedOf(int smell) {
            return smell > 0 ? smell - 1 : 0;
        }

        private static int freshenedOf(int faded, boolean onWater) {
            return onWater ? 0 : Math.min(STRONGEST, faded + FRESH);
        }

        private void clear() {
            for (int i = 0; i < MOST_NODES; i++) {
                smells[i] = 0;
            }
            place = NONE;
            moves = 0;
        }

        private void copyFrom(Trail other) {
            for (int i = 0; i < MOST_NODES; i++) {
                smells[i] = other.smells[i];
            }
            place = other.place;
            moves = other.moves;
        }

        private void begin(int node, int water) {
            clear();
            pass(smells, smells, node, water);
            place = node;
        }

        private void move(int node, int water) {
            pass(smells, smells, node, water);
            place = node;
            moves++;
        }

        private int smellOf(int node) {
            return node >= 0 && node < MOST_NODES ? smells[node] : 0;
        }

        private int strongestOf(int nodes) {
            int found = NONE, strong = 0;
            for (int i = 0; i < MOST_NODES; i++) {
                if (isIn(nodes, i) && smells[i] > strong) {
                    found = i;
                    strong = smells[i];
                }
            }
            return found;
        }

        private int sum() {
            int sum = 0;
            for (int i = 0; i < MOST_NODES; i++) {
                sum += smells[i];
            }
            return sum;
        }

        private int smelling() {
            int found = 0;
            for (int i = 0; i < MOST_NODES; i++) {
                found += smells[i] > 0 ? 1 : 0;
            }
            return found;
        }
    }

    /** What was smelt, in the order in which it was told. */
    private static final class Notes {
        private final int[] turns = new int[MOST_SMELT];
        private final int[] nodes = new int[MOST_SMELT];
        private final int[] strengths = new int[MOST_SMELT];
        private int size = 0;
        /** By this the wayfinder sees that its ways no longer fit. */
        private int changes = 0;

        private boolean add(int turn, int node, int strong) {
            if (size >= MOST_SMELT) {
                return false;
            }
            turns[size] = turn;
            nodes[size] = node;
            strengths[size] = strong;
            size++;
            changes++;
            return true;
        }

        private void cut(int n) {
            if (n >= 0 && n < size) {
                size = n;
                changes++;
            }
        }

        private void copyFrom(Notes other) {
            for (int i = 0; i < MOST_SMELT; i++) {
                turns[i] = other.turns[i];
                nodes[i] = other.nodes[i];
                strengths[i] = other.strengths[i];
            }
            size = other.size;
            changes++;
        }

        /** The latest turn, up to turn n, of which the first of them tell; 0 if they tell of none. */
        private int latestTurn(int heeded, int n) {
            int latest = 0;
            for (int i = 0; i < heeded && i < size; i++) {
                if (turns[i] <= n && turns[i] > latest) {
                    latest = turns[i];
                }
            }
            return latest;
        }

        /** The nodes on which he may be in a turn by the first of them, by the smells ahead of it. */
        private int allowedIn(int turn, int heeded, int[] ahead, int water) {
            int allowed = NODE_SETS - 1;
            for (int i = 0; i < heeded && i < size; i++) {
                int node = nodes[i];
                if (turns[i] == turn && node >= 0 && node < ahead.length) {
                    int faded = Trail.fadedOf(ahead[node]);
                    int fresh = Trail.freshenedOf(faded, isIn(water, node));
                    int there = strengths[i] == fresh ? 1 << node : 0;
                    int elsewhere = strengths[i] == faded ? ~(1 << node) : 0;
                    allowed &= there | elsewhere;
                }
            }
            return allowed;
        }
    }

    /** Takes the bytes of the tape, and what they tell into a net and notes of its own. */
    private static final class Reader {
        private static final int END = 0, NAME = 1, NUMBER = 2, SIGN = 3, BLANK = 4, STRANGE = 5;
        private static final int MOST_FIGURES = 2;
        private static final int NODES_TOLD = 1, REST_TOLD = 2, START_TOLD = 4;
        private static final int NO_TOKEN = 1, MISPLACED = 2, OUT_OF_BOUNDS = 3;
        private static final int TWICE = 4, TOO_MANY = 5, NO_NODE = 6;

        private final int[] tape = new int[TAPE_BYTES];
        private final Net net = new Net();
        private final Notes notes = new Notes();
        private int size = 0;
        private int at = 0;
        private int kind = END;
        private int from = 0;
        private int value = 0;
        private int told = 0;
        private int named = 0;
        private int fault = 0;
        private int place = 0;

        private int append(long v) {
            if (size > TAPE_BYTES - BYTES_FED) {
                return FULL;
            }
            for (int i = BYTES_FED - 1; i >= 0; i--) {
                tape[size] = (int) (v >> 8 * i) & 255;
                size++;
            }
            return size;
        }

        private int shorten(int n) {
            if (n < 0 || n > size) {
                return BAD;
            }
            int had = size;
            size = n;
            return had;
        }

        /** How many lines there are; -10 less the place of the fault. Empties the tape. */
        private int readAll() {
            net.clear();
            notes.cut(0);
            at = 0;
            told = 0;
            named = 0;
            fault = 0;
            int lines = 0;
            while (lines <= TAPE_BYTES && takeLine()) {
                lines++;
            }
            if (fault == 0 && !net.hasAll(named)) {
                fail(NO_NODE, size);
            }
            size = 0;
            return fault == 0 ? lines : -10 - place;
        }

        private boolean fail(int what, int where) {
            fault = what;
            place = where;
            return false;
        }

        private boolean takeLine() {
            if (!takeToken() || kind == END) {
                return false;
            }
            if (kind != NAME) {
                return fail(MISPLACED, from);
            }
            if (says("nodes")) {
                return takeNodes();
            }
            if (says("rest")) {
                return takeRest();
            }
            if (says("start")) {
                return takeStart();
            }
            if (says("lane")) {
                return takeLane();
            }
            if (says("water")) {
                return takeWater();
            }
            if (says("hole")) {
                return takeHole();
            }
            return says("smelt") ? takeSmelt() : fail(MISPLACED, from);
        }

        private boolean takeNodes() {
            if (!isFirst(NODES_TOLD) || !takeNumber(FEWEST_NODES, MOST_NODES)) {
                return false;
            }
            net.nodes = value;
            return takeSign();
        }

        private boolean takeRest() {
            if (!isFirst(REST_TOLD)) {
                return false;
            }
            net.rest = 1;
            return takeSign();
        }

        private boolean takeStart() {
            if (!isFirst(START_TOLD) || !takeNode()) {
                return false;
            }
            net.startsAt = value;
            return takeSign();
        }

        private boolean takeLane() {
            if (!takeNode()) {
                return false;
            }
            int ahead = value;
            boolean goesOn = takeNode();
            for (int i = 0; i < TAPE_BYTES && goesOn; i++) {
                if (value == ahead || net.areJoined(ahead, value)) {
                    return fail(TWICE, from);
                }
                net.tie(ahead, value, true);
                ahead = value;
                if (!takeToken()) {
                    return false;
                }
                if (kind == SIGN) {
                    return true;
                }
                goesOn = isNode();
            }
            return false;
        }

        private boolean takeWater() {
            if (!takeNode()) {
                return false;
            }
            if (isIn(net.water, value)) {
                return fail(TWICE, from);
            }
            net.water |= 1 << value;
            return takeSign();
        }

        private boolean takeHole() {
            if (!takeNode()) {
                return false;
            }
            if (isIn(net.holes, value)) {
                return fail(TWICE, from);
            }
            net.holes |= 1 << value;
            return takeSign();
        }

        private boolean takeSmelt() {
            if (notes.size >= MOST_SMELT) {
                return fail(TOO_MANY, from);
            }
            if (!takeNumber(0, LAST_TURN)) {
                return false;
            }
            int turn = value;
            if (!takeNode()) {
                return false;
            }
            int node = value;
            return takeNumber(0, STRONGEST) && notes.add(turn, node, value) && takeSign();
        }

        private boolean isFirst(int line) {
            if ((told & line) != 0) {
                return fail(TWICE, from);
            }
            told |= line;
            return true;
        }

        private boolean takeNumber(int low, int high) {
            return takeToken() && isNumber(low, high);
        }

        private boolean isNumber(int low, int high) {
            if (kind != NUMBER) {
                return fail(MISPLACED, from);
            }
            return value >= low && value <= high || fail(OUT_OF_BOUNDS, from);
        }

        private boolean takeNode() {
            return takeToken() && isNode();
        }

        /** Which nodes there are is known behind the last line only: they are noted till then. */
        private boolean isNode() {
            if (kind != NUMBER) {
                return fail(MISPLACED, from);
            }
            if (value < 0 || value >= MOST_NODES) {
                return fail(OUT_OF_BOUNDS, from);
            }
            named |= 1 << value;
            return true;
        }

        private boolean takeSign() {
            return takeToken() && (kind == SIGN || fail(MISPLACED, from));
        }

        private boolean takeToken() {
            while (at < size && kindAt(at) == BLANK) {
                at++;
            }
            from = at;
            kind = kindAt(at);
            at += kind == END ? 0 : 1;
            while (at < size && (kind == NAME || kind == NUMBER) && kindAt(at) == kind) {
                at++;
            }
            if (kind == STRANGE || kind == NUMBER && at - from > MOST_FIGURES) {
                return fail(NO_TOKEN, from);
            }
            value = kind == NUMBER ? figuresTaken() : 0;
            return true;
        }

        private int figuresTaken() {
            int sum = 0;
            for (int i = from; i < at && i < TAPE_BYTES; i++) {
                sum = 10 * sum + tape[i] - '0';
            }
            return sum;
        }

        private int kindAt(int i) {
            if (i < 0 || i >= size || i >= TAPE_BYTES) {
                return END;
            }
            if (tape[i] >= 'a' && tape[i] <= 'z') {
                return NAME;
            }
            if (tape[i] >= '0' && tape[i] <= '9') {
                return NUMBER;
            }
            if (tape[i] == ';') {
                return SIGN;
            }
            return tape[i] == ' ' ? BLANK : STRANGE;
        }

        private boolean says(String name) {
            if (at - from != name.length()) {
                return false;
            }
            for (int i = 0; i < name.length() && from + i < TAPE_BYTES; i++) {
                if (tape[from + i] != name.charAt(i)) {
                    return false;
                }
            }
            return true;
        }
    }

    /** Goes through the ways that fit what was smelt. */
    private static final class Wayfinder {
        private final Net net;
        private final Notes notes;
        /** [t]: the smells ahead of turn t; ahead of turn 0 there are none. */
        private final int[][] smells = new int[LAST_TURN + 1][MOST_NODES];
        /** [r][i]: how many ways of r moves there are from node i on. */
        private final int[][] walks = new int[LAST_TURN + 1][MOST_NODES];
        /** [r]: the nodes from which there is a way of r moves. */
        private final int[] onward = new int[LAST_TURN + 1];
        private final int[] path = new int[LAST_TURN + 1];
        private final int[] reached = new int[LAST_TURN + 1];
        private final int[] first = new int[LAST_TURN + 1];
        private int total = 0;
        private int turns = 0;
        private int heeded = 0;
        private int lastSmelt = 0;
        private boolean justOne = false;
        private boolean found = false;
        private int knownTurns = NONE;
        private int knownNet = 0;
        private int knownNotes = 0;

        private Wayfinder(Net net, Notes notes) {
            this.net = net;
            this.notes = notes;
        }

        private void search(int n) {
            if (knownTurns != n || knownNet != net.changes || knownNotes != notes.changes) {
                run(n, notes.size, false);
                knownTurns = n;
                knownNet = net.changes;
                knownNotes = notes.changes;
            }
        }

        private int firstImpossible() {
            knownTurns = NONE;
            for (int n = 1; n <= notes.size; n++) {
                run(LAST_TURN, n, true);
                if (total == 0) {
                    return n - 1;
                }
            }
            return NONE;
        }

        private void run(int n, int heededNotes, boolean onlyWhetherOne) {
            turns = n;
            heeded = heededNotes;
            justOne = onlyWhetherOne;
            found = false;
            lastSmelt = notes.latestTurn(heeded, n);
            for (int t = 0; t <= LAST_TURN; t++) {
                reached[t] = 0;
            }
            countWalks();
            total = explore(0);
            for (int t = lastSmelt + 1; t <= turns && t <= LAST_TURN; t++) {
                reached[t] = net.movesOfAll(reached[t - 1]) & onwardOf(turns - t);
            }
        }

        private void countWalks() {
            onward[0] = net.all();
            for (int i = 0; i < MOST_NODES; i++) {
                walks[0][i] = 1;
            }
            for (int r = 1; r <= turns && r <= LAST_TURN; r++) {
                onward[r] = 0;
                for (int i = 0; i < net.nodes && i < MOST_NODES; i++) {
                    walks[r][i] = walksFrom(r - 1, net.movesOf(i));
                    onward[r] |= walks[r][i] > 0 ? 1 << i : 0;
                }
            }
        }

        private int walksFrom(int r, int nodes) {
            int sum = 0;
            for (int i = 0; i < MOST_NODES && r >= 0 && r <= LAST_TURN; i++) {
                sum += isIn(nodes, i) ? walks[r][i] : 0;
            }
            return sum;
        }

        private int onwardOf(int r) {
            return r >= 0 && r <= LAST_TURN ? onward[r] : 0;
        }

        /** How many ways fit that begin as path does ahead of a turn. */
        private int explore(int turn) {
            int next = nodesFor(turn);
            if (turn >= lastSmelt || turn >= LAST_TURN) {
                return finish(turn, next);
            }
            int sum = 0;
            for (int i = 0; i < net.nodes && !(justOne && found); i++) {
                if (isIn(next, i)) {
                    path[turn] = i;
                    Trail.pass(smells[turn], smells[turn + 1], i, net.water);
                    int more = explore(turn + 1);
                    reached[turn] |= more > 0 ? 1 << i : 0;
                    sum += more;
                }
            }
            return sum;
        }

        private int nodesFor(int turn) {
            if (turn < 0 || turn > LAST_TURN) {
                return 0;
            }
            int nodes = turn == 0 ? net.beginnings() : net.movesOf(path[turn - 1]);
            return nodes & onwardOf(turns - turn) & notes.allowedIn(turn, heeded, smells[turn], net.water);
        }

        /** Behind the last smell all ways fit, so they are counted and not gone through. */
        private int finish(int turn, int next) {
            if (next == 0 || turn < 0 || turn > LAST_TURN) {
                return 0;
            }
            if (!found) {
                found = true;
                noteFirst(turn, next);
            }
            reached[turn] |= next;
            return walksFrom(turns - turn, next);
        }

        private void noteFirst(int turn, int next) {
            for (int t = 0; t < turn && t <= LAST_TURN; t++) {
                first[t] = path[t];
            }
            int nodes = next;
            for (int t = turn; t <= turns && t <= LAST_TURN; t++) {
                first[t] = leastOf(nodes);
                nodes = net.movesOf(first[t]) & onwardOf(turns - t - 1);
            }
        }
    }

    /** Finds the way that hounds at their posts can tell least of. */
    private static final class Doubter {
        private static final int BITS_OF_A_NODE = 4, A_NODE = 15;

        private final Net net;
        private int most = 0;
        private int turns = 0;
        private int telling = 0;
        private int route = 0;

        private Doubter(Net net) {
            this.net = net;
        }

        private void search(int from, int n, int posts) {
            most = 0;
            turns = n;
            route = 0;
            telling = posts & ~net.water;
            explore(0, from, 1 << from, from);
        }

        private int nodeOfTurn(int t) {
            return route >> BITS_OF_A_NODE * t & A_NODE;
        }

        /**
         * The smell at a post grows when he comes there and else does not, so all that a post tells
         * in a turn is whether he is on it; on water it tells nothing. So those for whom he could be
         * taken are known by where they are, and need not be gone through one by one.
         */
        private void explore(int turn, int node, int others, int way) {
            if (turn >= turns || turn >= LAST_DOUBT_TURN) {
                noteWay(others, way);
                return;
            }
            int moves = net.movesOf(node);
            int unseen = net.movesOfAll(others) & ~telling;
            for (int i = 0; i < net.nodes; i++) {
                if (isIn(moves, i)) {
                    int alike = isIn(telling, i) ? 1 << i : unseen;
                    explore(turn + 1, i, alike, way | i << BITS_OF_A_NODE * (turn + 1));
                }
            }
        }

        private void noteWay(int others, int way) {
            int doubt = Integer.bitCount(others);
            if (doubt > most) {
                most = doubt;
                route = way;
            }
        }
    }

    /** Looks for the shortest row of casts that leaves the fox no node. */
    private static final class Caster {
        private static final int UNSEEN = -1;
        /** Five of ten nodes can be chosen in so many ways. */
        private static final int MOST_CASTS = 252;

        private final Net net;
        /** [s]: the nodes where a fox who was on one of s can be a turn later. */
        private final int[] later = new int[NODE_SETS];
        /** [s]: the set and the cast from which s came first, as cast times NODE_SETS and the set. */
        private final int[] origin = new int[NODE_SETS];
        private final int[] queue = new int[NODE_SETS];
        private final int[] throwable = new int[MOST_CASTS];
        private int throwables = 0;
        private int hounds = 0;
        private int turns = 0;
        private int lastSet = 0;
        private int knownHounds = 0;
        private int knownSome = 0;
        private int knownNet = 0;

        private Caster(Net net) {
            this.net = net;
        }

        private void search(int k, int some) {
            if (knownHounds != k || knownSome != some || knownNet != net.changes) {
                knownHounds = k;
                knownSome = some;
                knownNet = net.changes;
                hounds = Math.min(k, net.nodes);
                tellCasts();
                tellLater();
                run(some);
            }
        }

        private void tellCasts() {
            throwables = 0;
            for (int cast = 1; cast <= net.all(); cast++) {
                if (Integer.bitCount(cast) == hounds && throwables < MOST_CASTS) {
                    throwable[throwables] = cast;
                    throwables++;
                }
            }
        }

        private void tellLater() {
            later[0] = 0;
            for (int s = 1; s <= net.all() && s < NODE_SETS; s++) {
                int others = s & s - 1;
                later[s] = later[others] | net.stepsOf(leastOf(s));
                origin[s] = UNSEEN;
            }
        }

        /**
         * Sets are met by the number of casts and, as casts are tried by their bits, by the row that
         * leads there; so the first set that one cast can cover ends the first of the shortest rows.
         */
        private void run(int some) {
            turns = 0;
            int met = 0;
            if (some > 0 && some < NODE_SETS) {
                queue[0] = some;
                origin[some] = 0;
                met = 1;
            }
            for (int next = 0; next < met && next < NODE_SETS; next++) {
                int set = queue[next];
                if (Integer.bitCount(set) <= hounds) {
                    lastSet = set;
                    turns = turnsTo(set);
                    return;
                }
                met = meetFrom(set, met);
            }
        }

        private int meetFrom(int set, int met) {
            int count = met;
            for (int c = 0; c < throwables && c < MOST_CASTS; c++) {
                int after = laterOf(set & ~throwable[c]);
                if (after > 0 && after < NODE_SETS && origin[after] == UNSEEN && count < NODE_SETS) {
                    origin[after] = throwable[c] * NODE_SETS + set;
                    queue[count] = after;
                    count++;
                }
            }
            return count;
        }

        private int laterOf(int set) {
            return set >= 0 && set < NODE_SETS ? later[set] : 0;
        }

        private int originOf(int set) {
            return set > 0 && set < NODE_SETS ? origin[set] : 0;
        }

        private int covering(int set) {
            for (int c = 0; c < throwables && c < MOST_CASTS; c++) {
                if ((set & ~throwable[c]) == 0) {
                    return throwable[c];
                }
            }
            return NONE;
        }

        private int turnsTo(int set) {
            int count = 1, s = set;
            while (count < NODE_SETS && originOf(s) > 0) {
                s = originOf(s) % NODE_SETS;
                count++;
            }
            return count;
        }

        private int castOfTurn(int t) {
            if (t < 0 || t >= turns) {
                return NONE;
            }
            if (t == turns - 1) {
                return covering(lastSet);
            }
            int set = lastSet;
            for (int turn = turns - 2; turn > t; turn--) {
                set = originOf(set) % NODE_SETS;
            }
            return originOf(set) / NODE_SETS;
        }
    }

    /** Plays a fox who is seen against two hounds, from all places at once. */
    private static final class Chase {
        private static final int PAIRS = MOST_NODES * MOST_NODES;
        private static final int PLACES = PAIRS * MOST_NODES;
        private static final int FOREVER = 1000000;

        private final Net net;
        /** By the fox and the pair of hounds: turns till he is caught, or FOREVER. */
        private final int[] turns = new int[PLACES];
        /** By the pair of hounds: the nodes where a fox is lost in as many turns as were looked at. */
        private final int[] lost = new int[PAIRS];
        private final int[] lostNext = new int[PAIRS];
        private boolean known = false;
        private int knownNet = 0;

        private Chase(Net net) {
            this.net = net;
        }

        private void solve() {
            if (known && knownNet == net.changes) {
                return;
            }
            known = true;
            knownNet = net.changes;
            setOut();
            int round = 1;
            while (round <= PLACES && playRound(round)) {
                round++;
            }
        }

        private void setOut() {
            for (int i = 0; i < PLACES; i++) {
                turns[i] = FOREVER;
            }
            for (int a = 0; a < net.nodes; a++) {
                for (int b = 0; b < net.nodes; b++) {
                    lost[indexOf(a, b)] = 1 << a | 1 << b;
                    turns[indexOf(a, a, b)] = 0;
                    turns[indexOf(b, a, b)] = 0;
                }
            }
        }

        /** Whether there are foxes who are lost in this round and were not in the one ahead. */
        private boolean playRound(int round) {
            boolean more = false;
            for (int a = 0; a < net.nodes; a++) {
                for (int b = a; b < net.nodes; b++) {
                    int was = lost[indexOf(a, b)];
                    int is = was | newlyLost(a, b, was);
                    lostNext[indexOf(a, b)] = is;
                    lostNext[indexOf(b, a)] = is;
                    noteTurns(a, b, is & ~was, round);
                    more |= is != was;
                }
            }
            for (int i = 0; i < PAIRS; i++) {
                lost[i] = lostNext[i];
            }
            return more;
        }

        private int newlyLost(int a, int b, int was) {
            int deadly = deadlyBy(a, b);
            int found = 0;
            for (int fox = 0; fox < net.nodes; fox++) {
                if (!isIn(was, fox) && (net.stepsOf(fox) & ~deadly) == 0) {
                    found |= 1 << fox;
                }
            }
            return found;
        }

        /** The nodes on which the fox is lost when it is the hounds' turn to go. */
        private int deadlyBy(int a, int b) {
            int nextA = reachOf(a), nextB = reachOf(b);
            int deadly = 0;
            for (int i = 0; i < net.nodes; i++) {
                for (int j = 0; j < net.nodes && isIn(nextA, i); j++) {
                    deadly |= isIn(nextB, j) ? lost[indexOf(i, j)] : 0;
                }
            }
            return deadly;
        }

        private void noteTurns(int a, int b, int foxes, int round) {
            for (int fox = 0; fox < net.nodes; fox++) {
                if (isIn(foxes, fox)) {
                    turns[indexOf(fox, a, b)] = round;
                    turns[indexOf(fox, b, a)] = round;
                }
            }
        }

        private int turnsOf(int fox, int a, int b) {
            int found = turns[indexOf(fox, a, b)];
            return found == FOREVER ? NONE : found;
        }

        private int bestMove(int fox, int a, int b) {
            int moves = net.stepsOf(fox);
            int best = NONE, longest = NONE;
            for (int i = 0; i < net.nodes; i++) {
                if (isIn(moves, i)) {
                    int lasts = lastsAt(i, a, b);
                    if (lasts > longest) {
                        best = i;
                        longest = lasts;
                    }
                }
            }
            return best;
        }

        /** Turns more till he is caught, when the hounds go next: 0 if he came to one, for it may stay. */
        private int lastsAt(int fox, int a, int b) {
            int nextA = reachOf(a), nextB = reachOf(b);
            int fewest = FOREVER;
            for (int i = 0; i < net.nodes; i++) {
                for (int j = 0; j < net.nodes && isIn(nextA, i); j++) {
                    if (isIn(nextB, j)) {
                        fewest = Math.min(fewest, turns[indexOf(fox, i, j)]);
                    }
                }
            }
            return fewest;
        }

        private int worstFrom(int a, int b) {
            int worst = 0;
            for (int fox = 0; fox < net.nodes; fox++) {
                worst = Math.max(worst, turns[indexOf(fox, a, b)]);
            }
            return worst == FOREVER ? NONE : worst;
        }

        /** A hound may stay, whether the fox may or not. */
        private int reachOf(int hound) {
            return net.joinedTo(hound) | 1 << hound;
        }

        private static int indexOf(int a, int b) {
            return Math.floorMod(MOST_NODES * a + b, PAIRS);
        }

        private static int indexOf(int fox, int a, int b) {
            return Math.floorMod(PAIRS * fox + MOST_NODES * a + b, PLACES);
        }
    }

    /** Hunts by a seed, with a fox and a hound of their own. */
    private static final class Seasons {
        private final Net net;
        private final Trail trail = new Trail();
        private int seed = 0;
        private int caughtFoxes = 0;
        private int turns = 0;

        private Seasons(Net net) {
            this.net = net;
        }

        private void run(int firstSeed, int hunts) {
            seed = firstSeed;
            caughtFoxes = 0;
            turns = 0;
            for (int i = 0; i < hunts; i++) {
                hunt();
            }
        }

        private void hunt() {
            trail.begin(draw(net.nodes), net.water);
            int hound = draw(net.nodes);
            for (int turn = 1; turn <= TURNS_OF_A_HUNT; turn++) {
                turns++;
                int moves = net.movesOf(trail.place);
                trail.move(moves == 0 ? trail.place : drawNode(moves), net.water);
                if (trail.place != hound) {
                    hound = follow(hound);
                }
                if (trail.place == hound) {
                    caughtFoxes++;
                    return;
                }
            }
        }

        private int follow(int hound) {
            int joined = net.joinedTo(hound);
            int strongest = trail.strongestOf(joined);
            if (strongest != NONE) {
                return strongest;
            }
            return joined == 0 ? hound : drawNode(joined);
        }

        private int drawNode(int bits) {
            int nodes = bits;
            for (int i = draw(Integer.bitCount(bits)); i > 0; i--) {
                nodes &= nodes - 1;
            }
            return leastOf(nodes);
        }

        private int draw(int k) {
            seed = seed * 1103515245 + 12345;
            return k > 0 ? (seed >>> 16 & 32767) % k : 0;
        }
    }

    /** What keep() keeps. Nodes, rest, water and holes can not change while it is there. */
    private static final class Image {
        private final Net net = new Net();
        private final Trail trail = new Trail();
        private final Notes notes = new Notes();
        private boolean there = false;
    }

    /** A row of cells of one width. Its faults are told, so that the machine finds none. */
    private static final class Sheet {
        private final int[] cells = new int[MOST_CELLS];
        private int lane = BYTES_LANE;
        private int size = NONE;

        private void make(int newLane, int n) {
            for (int i = 0; i < MOST_CELLS; i++) {
                cells[i] = 0;
            }
            lane = newLane;
            size = n;
        }

        /** What refuses some cells from cell i on, or 0. */
        private int faultOf(int i, int some) {
            if (size == NONE) {
                return FAULT_NULL;
            }
            return i < 0 || i > size - some ? FAULT_INDEX : 0;
        }

        private int faultAs(int asLane, int i, int some) {
            return size != NONE && lane != asLane ? FAULT_CAST : faultOf(i, some);
        }

        private void put(int i, int v) {
            if (i >= 0 && i < MOST_CELLS) {
                cells[i] = narrowed(v);
            }
        }

        private int narrowed(int v) {
            switch (lane) {
                case BYTES_LANE: return (byte) v;
                case SHORTS_LANE: return (short) v;
                default: return v;
            }
        }

        private int valueOf(int i) {
            return i >= 0 && i < MOST_CELLS ? cells[i] : 0;
        }
    }
}
