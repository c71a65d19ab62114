/**
 * Sorting by runs that are grown in a small room, spread over few tapes and merged step by step.
 * The promises, and the words in capitals that the comments use, stand in the project's document.
 */
public final class RunTapes {
    public static final int NONE = -1;

    /** What calls answer beside NONE: it is so already, or there is no such thing (yet); beyond the end of a RUN. */
    private static final int UNMET = -2;
    private static final int BEYOND = -3;

    private static final int MOST_RECORDS = 300;
    private static final int MOST_KEYS = 256;
    private static final int MOST_BYTES = 200;
    private static final int MOST_DRAWN = 100;
    private static final int MOST_ROOM = 16;
    private static final int MOST_TAPES = 6;
    private static final int MOST_BLOCK = 16;
    private static final int MOST_ACTS = 8;
    private static final int SHELVES = 2;
    /** UNITS of LEVEL 5 by CASCADE with 6 TAPES have 671 RUNS, 190 on one TAPE; nothing has more. */
    private static final int MOST_ON_PAPER = 700;
    private static final int MOST_ON_TAPE = 256;
    /** Far above the STEPS that any RUNS need: it only shows that the loops end. */
    private static final int STEP_BOUND = 100000;

    private static final int ROOM = 0;
    private static final int TAPES = 1;
    private static final int WAY = 2;
    private static final int DUMMIES = 3;
    private static final int BACK = 4;
    private static final int GROWTH = 5;
    private static final int SETTINGS = 6;
    private static final int[] AT_FIRST = {4, 4, 0, 0, 0, 0};
    private static final int[] LOWEST = {2, 3, 0, 0, 0, 0};
    private static final int[] HIGHEST = {16, 6, 2, 1, 1, 1};

    private static final int POLYPHASE = 0;
    private static final int BALANCED = 1;
    private static final int CASCADE = 2;

    private static final int TELLING = 0;
    private static final int GROWN = 1;
    private static final int SPREAD = 2;
    private static final int MERGED = 3;

    /** Places in a mill's tally, numbered as plan(what) asks for them. */
    private static final int MOVES = 0;
    private static final int STEPS = 1;
    private static final int PHASES = 2;
    private static final int TURNED = 3;
    private static final int BLANKS = 4;
    private static final int LEVEL = 5;
    private static final int TALLIES = 6;

    /** What a TAPE may give instead of a RUN's number. */
    private static final int DUMMY = -1;
    private static final int ABSENT = -2;

    private final int[] bytes = new int[MOST_BYTES];
    private int byteCount;
    private int x;
    private final State now = new State();
    private final State[] past = new State[MOST_ACTS];
    private final int[] pastX = new int[MOST_ACTS];
    private int acts;
    private int nextPast;
    private final State[] shelves = new State[SHELVES];
    private final boolean[] kept = new boolean[SHELVES];
    private final Mill paper = new Mill(MOST_ON_PAPER);
    private final Numbers numbers = new Numbers();
    private final int[] weights = new int[MOST_RECORDS];
    private final long[] likeStands = new long[MOST_ON_PAPER];

    public RunTapes() {
        for (int i = 0; i < MOST_ACTS; i++) {
            past[i] = new State();
        }
        for (int i = 0; i < SHELVES; i++) {
            shelves[i] = new State();
        }
    }

    // ---- RECORDS come and go

    public int feed(int a, int b, int c, int d, int e) {
        if (byteCount + 20 > MOST_BYTES) {
            return NONE;
        }
        takeBytes(a);
        takeBytes(b);
        takeBytes(c);
        takeBytes(d);
        takeBytes(e);
        return byteCount;
    }

    private void takeBytes(int number) {
        for (int shift = 24; shift >= 0 && byteCount < MOST_BYTES; shift -= 8) {
            bytes[byteCount] = (number >>> shift) & 255;
            byteCount++;
        }
    }

    public int end(int n) {
        if (n < 0 || n > byteCount) {
            return NONE;
        }
        byteCount = n;
        return n;
    }

    public int tell() {
        if (byteCount == 0 || now.records.size + byteCount > MOST_RECORDS) {
            return NONE;
        }
        remember();
        for (int i = 0; i < byteCount; i++) {
            now.records.add(bytes[i]);
        }
        byteCount = 0;
        now.stage = TELLING;
        return now.records.size;
    }

    public int drawn(int n, int m) {
        if (n < 1 || n > MOST_DRAWN || m < 1 || m > MOST_KEYS || now.records.size + n > MOST_RECORDS) {
            return NONE;
        }
        remember();
        for (int i = 0; i < n; i++) {
            now.records.add(drawOf(m));
        }
        now.stage = TELLING;
        return now.records.size;
    }

    private int drawOf(int m) {
        x = (int) ((x * 1103515245L + 12345L) & 2147483647L);
        return m < 1 ? 0 : x / 65536 % m;
    }

    public int draws(int x) {
        if (x < 0) {
            return NONE;
        }
        int before = this.x;
        this.x = x;
        return before;
    }

    public int clear() {
        remember();
        int before = now.records.size;
        now.records.wipe();
        now.stage = TELLING;
        return before;
    }

    public int settle(int what, int value) {
        if (!fits(what, value)) {
            return NONE;
        }
        int before = now.settings[what];
        if (before == value) {
            return UNMET;
        }
        remember();
        now.settings[what] = value;
        now.stage = TELLING;
        return before;
    }

    private static boolean fits(int what, int value) {
        return what >= 0 && what < SETTINGS && value >= LOWEST[what] && value <= HIGHEST[what];
    }

    // ---- RUNS are GROWN, SPREAD, MERGED

    public int grow() {
        if (now.stage >= GROWN) {
            return UNMET;
        }
        if (now.records.size == 0) {
            return NONE;
        }
        remember();
        now.growRuns();
        return now.grown.size;
    }

    public int spread() {
        if (now.stage >= SPREAD) {
            return UNMET;
        }
        if (!canPlan()) {
            return NONE;
        }
        remember();
        now.spreadRuns();
        return now.mill.tally[BLANKS];
    }

    public int step() {
        int refused = whyNoStep();
        if (refused != 0) {
            return refused;
        }
        remember();
        int before = now.mill.tally[MOVES];
        now.mergeOnce();
        return now.mill.tally[MOVES] - before;
    }

    public int phase() {
        int refused = whyNoStep();
        if (refused != 0) {
            return refused;
        }
        remember();
        int phaseBefore = now.mill.tally[PHASES];
        int stepsBefore = now.mill.tally[STEPS];
        for (int i = 0; i < STEP_BOUND && now.stage == SPREAD && now.mill.tally[PHASES] == phaseBefore; i++) {
            now.mergeOnce();
        }
        return now.mill.tally[STEPS] - stepsBefore;
    }

    public int all() {
        int refused = whyNoStep();
        if (refused != 0) {
            return refused;
        }
        remember();
        int stepsBefore = now.mill.tally[STEPS];
        for (int i = 0; i < STEP_BOUND && now.stage == SPREAD; i++) {
            now.mergeOnce();
        }
        return now.mill.tally[STEPS] - stepsBefore;
    }

    /** 0 if a STEP can be taken, else what a call for one answers. */
    private int whyNoStep() {
        if (now.stage == MERGED) {
            return UNMET;
        }
        return now.stage == SPREAD ? 0 : NONE;
    }

    // ---- what stands where

    public int record(int k, int what) {
        if (k < 0 || k >= now.records.size) {
            return NONE;
        }
        if (what == 0) {
            return now.records.keys[k];
        }
        return what == 1 && now.stage >= GROWN ? now.grown.runOf[k] : NONE;
    }

    public int run(int k, int what) {
        if (!isRun(k) || what < -2) {
            return NONE;
        }
        boolean falls = now.grown.falls(k);
        if (what == -2) {
            return falls ? 1 : 0;
        }
        if (what == NONE) {
            return now.grown.length[k];
        }
        return what < now.grown.length[k] ? now.grownRecord(k, what) : BEYOND;
    }

    private boolean isRun(int k) {
        return now.stage >= GROWN && k >= 0 && k < now.grown.size;
    }

    public int tape(int t, int what) {
        if (!isTape(t)) {
            return NONE;
        }
        Mill mill = now.mill;
        switch (what) {
            case 0:
                return mill.tape[t].size();
            case 1:
                return mill.tape[t].dummies();
            case 2:
                return mill.recordsOn(t);
            case 3:
                return mill.to == t ? 1 : 0;
            default:
                return NONE;
        }
    }

    private boolean isTape(int t) {
        return now.stage >= SPREAD && t >= 0 && t < now.mill.tapes;
    }

    public int on(int t, int k, int what) {
        if (!isTape(t) || what < -2) {
            return NONE;
        }
        int run = now.mill.tape[t].at(k, now.mill.back);
        if (run == ABSENT) {
            return NONE;
        }
        int length = now.mill.sizeOf(run);
        if (what == -2) {
            return now.mill.isDown(run) ? 1 : 0;
        }
        if (what == NONE) {
            return length;
        }
        return what < length ? now.tapeRecord(run, what) : BEYOND;
    }

    public int sorted(int k) {
        if (k < 0 || k >= now.records.size) {
            return NONE;
        }
        return now.stage == MERGED ? now.records.rising[k] : UNMET;
    }

    // ---- on paper

    public int perfect(int level, int t) {
        int tapes = now.settings[TAPES];
        if (level < 0 || level > 8 || t < NONE || t >= tapes - 1 || now.settings[WAY] == BALANCED) {
            return NONE;
        }
        numbers.climbTo(level, now.settings[WAY], tapes - 1);
        return t == NONE ? numbers.together() : numbers.at[t];
    }

    public int plan(int what) {
        if (what < 0 || what >= TALLIES || !canPlan()) {
            return NONE;
        }
        beginPlan();
        paper.mergeAll();
        return paper.tally[what];
    }

    private boolean canPlan() {
        return now.stage >= GROWN && canSpread(now.settings[WAY], now.settings[TAPES]);
    }

    private static boolean canSpread(int way, int tapes) {
        return way != BALANCED || tapes > 3;
    }

    private void beginPlan() {
        paper.begin(now.settings[WAY], now.settings[TAPES], now.settings[BACK] == 1);
        now.layRuns(paper);
    }

    public int planned(int way, int tapes, int back) {
        boolean known = fits(WAY, way) && fits(TAPES, tapes) && fits(BACK, back);
        if (!known || now.stage < GROWN || !canSpread(way, tapes)) {
            return NONE;
        }
        paper.begin(way, tapes, back == 1);
        now.layRuns(paper);
        paper.mergeAll();
        return paper.tally[MOVES];
    }

    public int least(int k) {
        if (k < 2 || k > 5 || now.stage < GROWN) {
            return NONE;
        }
        int left = now.grown.size;
        System.arraycopy(now.grown.length, 0, weights, 0, left);
        // Only the first merge may be a small one: it is then the cheapest, and all others are full.
        int rest = (left - 1) % (k - 1);
        int take = rest == 0 ? k : rest + 1;
        int moves = 0;
        for (int merge = 0; merge < MOST_RECORDS && left > 1; merge++) {
            int made = 0;
            for (int i = 0; i < take && left > 0; i++) {
                made += takeLightest(left);
                left--;
            }
            weights[left] = made;
            left++;
            moves += made;
            take = k;
        }
        return moves;
    }

    /** The last of the weights fills the place of the one that goes. */
    private int takeLightest(int left) {
        int best = 0;
        for (int i = 1; i < left; i++) {
            if (weights[i] < weights[best]) {
                best = i;
            }
        }
        int weight = weights[best];
        weights[best] = weights[left - 1];
        return weight;
    }

    public int depth(int k) {
        if (!isRun(k) || !canPlan()) {
            return NONE;
        }
        beginPlan();
        int carrier = k;
        int moved = 0;
        for (int i = 0; i < STEP_BOUND && paper.left > 1; i++) {
            paper.advance();
            if (paper.takenFrom(carrier) != NONE) {
                carrier = paper.made;
                moved++;
            }
        }
        return moved;
    }

    public int units(int level) {
        if (level < 0 || level > 5 || now.settings[WAY] == BALANCED) {
            return NONE;
        }
        int tapes = now.settings[TAPES];
        numbers.climbTo(level, now.settings[WAY], tapes - 1);
        int runs = numbers.together();
        paper.begin(now.settings[WAY], tapes, now.settings[BACK] == 1);
        for (int i = 0; i < runs; i++) {
            paper.load(1, false);
        }
        paper.layOut(false);
        paper.mergeAll();
        return paper.tally[MOVES];
    }

    public int stands() {
        if (!canPlan()) {
            return NONE;
        }
        beginPlan();
        likeStands[0] = paper.stand();
        int like = 1;
        int unlike = 1;
        int left = paper.left;
        for (int i = 0; i < STEP_BOUND && paper.left > 1; i++) {
            paper.advance();
            // RUNS only become fewer: those with other sums need not be looked at.
            if (paper.left != left) {
                left = paper.left;
                like = 0;
            }
            long stand = paper.stand();
            if (!isAmongLikeStands(stand, like) && like < likeStands.length) {
                likeStands[like] = stand;
                like++;
                unlike++;
            }
        }
        return unlike;
    }

    private boolean isAmongLikeStands(long stand, int like) {
        for (int i = 0; i < like; i++) {
            if (likeStands[i] == stand) {
                return true;
            }
        }
        return false;
    }

    // ---- of KEYS and RECORDS as they were told

    public int key(int key, int what) {
        if (key < 0 || key >= MOST_KEYS) {
            return NONE;
        }
        switch (what) {
            case 0:
                return now.records.howOften(key);
            case 1:
                return now.records.firstOf(key);
            case 2:
                return now.records.lastOf(key);
            default:
                return NONE;
        }
    }

    public int keys(int what) {
        if (what == 0) {
            return now.records.unlikeKeys();
        }
        if (what != 1 && what != 2) {
            return NONE;
        }
        int often = now.records.keyMostOften();
        if (what == 1) {
            return often;
        }
        return often == NONE ? 0 : now.records.howOften(often);
    }

    public int about(int what) {
        Records told = now.records;
        switch (what) {
            case 0:
                return told.inversions;
            case 1:
                return told.naturalRuns();
            case 2:
                return told.size == 0 ? NONE : told.rising[told.size / 2];
            default:
                return NONE;
        }
    }

    // ---- what is to come

    public int forecast(int block, int k) {
        if (block < 1 || block > MOST_BLOCK || k < NONE || now.stage != SPREAD) {
            return NONE;
        }
        return now.fetchedTape(block, k);
    }

    public int needs(int block) {
        if (block < 1 || block > MOST_BLOCK || now.stage < SPREAD) {
            return NONE;
        }
        paper.copyFrom(now.mill);
        int blocks = 0;
        for (int i = 0; i < STEP_BOUND && paper.left > 1; i++) {
            paper.look();
            blocks += paper.blocksTaken(block);
            paper.advance();
        }
        return blocks;
    }

    // ---- ACTS and SHELVES

    private void remember() {
        past[nextPast].copyFrom(now);
        pastX[nextPast] = x;
        nextPast = (nextPast + 1) % MOST_ACTS;
        acts = Math.min(acts + 1, MOST_ACTS);
    }

    public int undo() {
        if (acts == 0) {
            return NONE;
        }
        nextPast = (nextPast + MOST_ACTS - 1) % MOST_ACTS;
        now.copyFrom(past[nextPast]);
        x = pastX[nextPast];
        acts--;
        return acts;
    }

    public int keep(int shelf) {
        if (shelf < 0 || shelf >= SHELVES) {
            return NONE;
        }
        shelves[shelf].copyFrom(now);
        kept[shelf] = true;
        return now.records.size;
    }

    public int back(int shelf) {
        if (shelf < 0 || shelf >= SHELVES) {
            return NONE;
        }
        if (!kept[shelf]) {
            return UNMET;
        }
        now.copyFrom(shelves[shelf]);
        acts = 0;
        return now.records.size;
    }

    public int count(int what) {
        if (what >= 2 && what <= 6) {
            return now.settings[what - 2];
        }
        if (what >= 8 && what <= 11) {
            return now.stage >= SPREAD ? now.mill.tally[what - 8] : 0;
        }
        switch (what) {
            case 0:
                return now.records.size;
            case 1:
                return now.stage >= GROWN ? now.grown.size : 0;
            case 7:
                return now.stage;
            case 12:
                return acts;
            case 13:
                return x;
            case 14:
                return byteCount;
            case 15:
                return now.settings[GROWTH];
            default:
                return NONE;
        }
    }

    /** All that an ACT may change, but for x and the TAPE of bytes. */
    private static final class State {
        private final Records records = new Records();
        private final int[] settings = AT_FIRST.clone();
        private int stage;
        private final Grown grown = new Grown();
        private final Mill mill = new Mill(MOST_RECORDS);
        /** Of each RUN that GREW the mill's RUN that has its RECORDS now. */
        private final int[] holder = new int[MOST_RECORDS];
        /** Of each TAPE how many RECORDS a FORECAST has seen written. */
        private final int[] passed = new int[MOST_TAPES];

        private void copyFrom(State other) {
            records.copyFrom(other.records);
            System.arraycopy(other.settings, 0, settings, 0, SETTINGS);
            stage = other.stage;
            if (stage >= GROWN) {
                grown.copyFrom(other.grown, records.size);
            }
            if (stage >= SPREAD) {
                mill.copyFrom(other.mill);
                System.arraycopy(other.holder, 0, holder, 0, grown.size);
            }
        }

        private void growRuns() {
            grown.growFrom(records, settings[ROOM], settings[GROWTH] == 1);
            stage = GROWN;
        }

        private void spreadRuns() {
            mill.begin(settings[WAY], settings[TAPES], settings[BACK] == 1);
            layRuns(mill);
            for (int run = 0; run < grown.size; run++) {
                holder[run] = run;
            }
            stage = mill.left > 1 ? SPREAD : MERGED;
        }

        private void layRuns(Mill onto) {
            for (int run = 0; run < grown.size; run++) {
                onto.load(grown.length[run], grown.falls(run));
            }
            onto.layOut(settings[DUMMIES] == 1);
        }

        private void mergeOnce() {
            mill.advance();
            for (int run = 0; run < grown.size; run++) {
                if (mill.takenFrom(holder[run]) != NONE) {
                    holder[run] = mill.made;
                }
            }
            if (mill.left <= 1) {
                stage = MERGED;
            }
        }

        /** RUNS are always in order: which RECORDS are on one, and whether it falls, tells where each stands. */
        private int grownRecord(int run, int i) {
            int ahead = 0;
            for (int rank = 0; rank < records.size; rank++) {
                int one = records.ranked(rank, grown.falls(run));
                if (grown.runOf[one] == run) {
                    if (ahead == i) {
                        return one;
                    }
                    ahead++;
                }
            }
            return BEYOND;
        }

        private int tapeRecord(int run, int i) {
            int ahead = 0;
            for (int rank = 0; rank < records.size; rank++) {
                int one = records.ranked(rank, mill.isDown(run));
                if (holder[grown.runOf[one]] == run) {
                    if (ahead == i) {
                        return one;
                    }
                    ahead++;
                }
            }
            return BEYOND;
        }

        private int fetchedTape(int block, int k) {
            mill.look();
            for (int t = 0; t < MOST_TAPES; t++) {
                passed[t] = 0;
            }
            int fetched = 0;
            for (int rank = 0; rank < records.size; rank++) {
                int one = records.ranked(rank, mill.falling);
                int t = mill.takenFrom(holder[grown.runOf[one]]);
                if (t != NONE && isFetchedBehindNext(t, block)) {
                    if (fetched == k) {
                        return t;
                    }
                    fetched++;
                }
            }
            return k == NONE ? fetched : UNMET;
        }

        /** One more RECORD of a TAPE is written: whether its next BLOCK is fetched then. */
        private boolean isFetchedBehindNext(int t, int block) {
            passed[t]++;
            return block > 0 && passed[t] % block == 0 && passed[t] < mill.sizeOf(mill.taken[t]);
        }
    }

    /** RECORDS as they were told, and in rising order. */
    private static final class Records {
        private final int[] keys = new int[MOST_RECORDS];
        private final int[] rising = new int[MOST_RECORDS];
        private int size;
        private int inversions;

        private void copyFrom(Records other) {
            size = other.size;
            inversions = other.inversions;
            System.arraycopy(other.keys, 0, keys, 0, size);
            System.arraycopy(other.rising, 0, rising, 0, size);
        }

        private void wipe() {
            size = 0;
            inversions = 0;
        }

        private void add(int key) {
            if (size >= MOST_RECORDS) {
                return;
            }
            int at = size;
            while (at > 0 && keys[rising[at - 1]] > key) {
                rising[at] = rising[at - 1];
                at--;
            }
            rising[at] = size;
            // Those that made way were told ahead and have greater KEYS.
            inversions += size - at;
            keys[size] = key;
            size++;
        }

        private boolean isLess(int one, int other) {
            return keys[one] < keys[other] || keys[one] == keys[other] && one < other;
        }

        private int ranked(int rank, boolean fromTop) {
            return rising[fromTop ? size - 1 - rank : rank];
        }

        private int howOften(int key) {
            int often = 0;
            for (int i = 0; i < size; i++) {
                if (keys[i] == key) {
                    often++;
                }
            }
            return often;
        }

        private int firstOf(int key) {
            for (int i = 0; i < size; i++) {
                if (keys[i] == key) {
                    return i;
                }
            }
            return UNMET;
        }

        private int lastOf(int key) {
            for (int i = size - 1; i >= 0; i--) {
                if (keys[i] == key) {
                    return i;
                }
            }
            return UNMET;
        }

        /** Like KEYS stand side by side in rising order. */
        private boolean beginsKey(int rank) {
            return rank == 0 || keys[rising[rank]] != keys[rising[rank - 1]];
        }

        private int unlikeKeys() {
            int unlike = 0;
            for (int rank = 0; rank < size; rank++) {
                if (beginsKey(rank)) {
                    unlike++;
                }
            }
            return unlike;
        }

        private int keyMostOften() {
            int best = NONE;
            int bestOften = 0;
            int begin = 0;
            for (int rank = 0; rank < size; rank++) {
                if (beginsKey(rank)) {
                    begin = rank;
                }
                int often = rank - begin + 1;
                int first = rising[begin];
                if (often > bestOften || often == bestOften && first < best) {
                    best = first;
                    bestOften = often;
                }
            }
            return best == NONE ? NONE : keys[best];
        }

        private int naturalRuns() {
            int runs = 0;
            for (int i = 0; i < size; i++) {
                if (i == 0 || keys[i] < keys[i - 1]) {
                    runs++;
                }
            }
            return runs;
        }
    }

    /** RUNS as they GREW. */
    private static final class Grown {
        private final int[] runOf = new int[MOST_RECORDS];
        private final int[] length = new int[MOST_RECORDS];
        private int size;
        private boolean byTurns;
        private final int[] waiting = new int[MOST_ROOM];
        private int inRoom;

        private void copyFrom(Grown other, int records) {
            size = other.size;
            byTurns = other.byTurns;
            System.arraycopy(other.runOf, 0, runOf, 0, records);
            System.arraycopy(other.length, 0, length, 0, size);
        }

        private boolean falls(int run) {
            return byTurns && run % 2 == 1;
        }

        private void growFrom(Records told, int room, boolean turns) {
            byTurns = turns;
            int next = Math.min(Math.min(room, MOST_ROOM), told.size);
            for (inRoom = 0; inRoom < next; inRoom++) {
                waiting[inRoom] = inRoom;
                runOf[inRoom] = 0;
            }
            size = 0;
            for (int gone = 0; gone < told.size; gone++) {
                int at = size == 0 ? NONE : nextOut(told, size - 1);
                if (at == NONE) {
                    length[size] = 0;
                    at = nextOut(told, size);
                    size++;
                }
                if (at == NONE) {
                    return;
                }
                length[size - 1]++;
                if (next < told.size) {
                    runOf[next] = goesOn(told, next, waiting[at]) ? size - 1 : size;
                    waiting[at] = next;
                    next++;
                } else {
                    inRoom--;
                    waiting[at] = waiting[inRoom];
                }
            }
        }

        /** The place in the room of the RECORD of a RUN that goes out next. */
        private int nextOut(Records told, int run) {
            int best = NONE;
            for (int i = 0; i < inRoom; i++) {
                if (runOf[waiting[i]] != run) {
                    continue;
                }
                if (best == NONE || told.isLess(waiting[i], waiting[best]) != falls(run)) {
                    best = i;
                }
            }
            return best;
        }

        private boolean goesOn(Records told, int next, int gone) {
            return told.isLess(next, gone) == falls(size - 1);
        }
    }

    /** PERFECT numbers of a LEVEL. */
    private static final class Numbers {
        private final int[] at = new int[MOST_TAPES - 1];
        private int width;
        private int level;

        private void ground(int k) {
            width = Math.max(1, Math.min(k, MOST_TAPES - 1));
            level = 0;
            for (int i = 0; i < width; i++) {
                at[i] = i == 0 ? 1 : 0;
            }
        }

        private void climb(int way) {
            level++;
            if (way == CASCADE) {
                climbCascade();
                return;
            }
            int first = at[0];
            for (int i = 0; i + 1 < width; i++) {
                at[i] = first + at[i + 1];
            }
            at[width - 1] = first;
        }

        private void climbCascade() {
            for (int i = 1; i < width; i++) {
                at[i] += at[i - 1];
            }
            for (int i = 0; i < width / 2; i++) {
                int other = at[width - 1 - i];
                at[width - 1 - i] = at[i];
                at[i] = other;
            }
        }

        private void climbTo(int goal, int way, int k) {
            ground(k);
            for (int i = 0; i < goal; i++) {
                climb(way);
            }
        }

        /** Two numbers at least: each LEVEL has more together than the one below it. */
        private void climbFor(int runs, int way, int k) {
            ground(k);
            for (int i = 0; i < MOST_ON_PAPER && together() < runs; i++) {
                climb(way);
            }
        }

        private int together() {
            int sum = 0;
            for (int i = 0; i < width; i++) {
                sum += at[i];
            }
            return sum;
        }
    }

    /** The RUNS of one TAPE by their numbers, as they were written. */
    private static final class Tape {
        private final int[] runs = new int[MOST_ON_TAPE];
        private int low;
        private int high;

        private void copyFrom(Tape other) {
            low = other.low;
            high = other.high;
            System.arraycopy(other.runs, low, runs, low, high - low);
        }

        private void wipe() {
            low = 0;
            high = 0;
        }

        private int size() {
            return high - low;
        }

        private int dummies() {
            int dummies = 0;
            for (int i = low; i < high; i++) {
                if (runs[i] == DUMMY) {
                    dummies++;
                }
            }
            return dummies;
        }

        private int at(int k, boolean fromBack) {
            if (k < 0 || k >= size()) {
                return ABSENT;
            }
            return runs[fromBack ? high - 1 - k : low + k];
        }

        private void write(int run) {
            if (high < MOST_ON_TAPE) {
                runs[high] = run;
                high++;
            }
        }

        private void drop(boolean fromBack) {
            if (low >= high) {
                return;
            }
            if (fromBack) {
                high--;
            } else {
                low++;
            }
            // A TAPE is written only when it was empty, so its row never needs to go round.
            if (low == high) {
                wipe();
            }
        }
    }

    /** The TAPES and what STEPS do to them: only how long RUNS are and how they stand, not which RECORDS they have. */
    private static final class Mill {
        private int way;
        private int tapes;
        /** By BALANCED: how many TAPES are in the lower half. */
        private int half = 1;
        private boolean back;
        private final Tape[] tape = new Tape[MOST_TAPES];
        private final int[] length;
        private final boolean[] down;
        private int loaded;
        /** How many RUNS are on all TAPES, DUMMIES too. */
        private int left;
        private int to;
        /** By CASCADE: which TAPES may still give in this PASS. */
        private final boolean[] open = new boolean[MOST_TAPES];
        /** By BALANCED: whether the lower half gives. */
        private boolean lowGives;
        private final int[] tally = new int[TALLIES];
        /** Of the STEP that was looked at last: what each TAPE gives, which RUN leads, how it is written, as which RUN. */
        private final int[] taken = new int[MOST_TAPES];
        private int lead;
        private boolean falling;
        private int made;
        private final Numbers places = new Numbers();
        private final int[] blanks = new int[MOST_TAPES];

        private Mill(int mostRuns) {
            length = new int[Math.max(mostRuns, 0)];
            down = new boolean[Math.max(mostRuns, 0)];
            for (int t = 0; t < MOST_TAPES; t++) {
                tape[t] = new Tape();
            }
        }

        private void copyFrom(Mill other) {
            way = other.way;
            tapes = other.tapes;
            half = other.half;
            back = other.back;
            loaded = Math.min(other.loaded, length.length);
            left = other.left;
            to = other.to;
            lowGives = other.lowGives;
            System.arraycopy(other.length, 0, length, 0, loaded);
            System.arraycopy(other.tally, 0, tally, 0, TALLIES);
            for (int run = 0; run < loaded; run++) {
                down[run] = other.down[run];
            }
            for (int t = 0; t < MOST_TAPES; t++) {
                tape[t].copyFrom(other.tape[t]);
                open[t] = other.open[t];
            }
        }

        private void begin(int newWay, int newTapes, boolean newBack) {
            way = newWay;
            tapes = Math.max(3, Math.min(newTapes, MOST_TAPES));
            half = tapes / 2;
            back = newBack;
            loaded = 0;
            left = 0;
            for (int t = 0; t < MOST_TAPES; t++) {
                tape[t].wipe();
                blanks[t] = 0;
            }
            for (int i = 0; i < TALLIES; i++) {
                tally[i] = 0;
            }
        }

        private void load(int records, boolean falls) {
            if (loaded < length.length) {
                length[loaded] = records;
                down[loaded] = falls;
                loaded++;
            }
        }

        // -- RUNS are SPREAD

        private void layOut(boolean front) {
            if (way == BALANCED) {
                dealByTurns();
            } else {
                places.climbFor(loaded, way, tapes - 1);
                dealByNumbers(front);
            }
            lowGives = true;
            openPass();
            turnLast();
        }

        private void dealByTurns() {
            for (int run = 0; run < loaded; run++) {
                tape[run % half].write(run);
            }
            left = loaded;
            to = half;
            tally[LEVEL] = NONE;
        }

        private void dealByNumbers(boolean front) {
            left = places.together();
            tally[LEVEL] = places.level;
            tally[BLANKS] = left - loaded;
            for (int i = 0; i < tally[BLANKS]; i++) {
                int t = front ? firstPlace() : fewestBlanks();
                blanks[t]++;
                places.at[t]--;
            }
            // Either way DUMMIES are where the TAPE is read first.
            if (!back) {
                writeBlanks();
            }
            for (int run = 0; run < loaded; run++) {
                int t = mostPlaces();
                tape[t].write(run);
                places.at[t]--;
            }
            if (back) {
                writeBlanks();
            }
            to = tapes - 1;
        }

        private int firstPlace() {
            for (int t = 0; t < tapes - 1; t++) {
                if (places.at[t] > 0) {
                    return t;
                }
            }
            return 0;
        }

        private int fewestBlanks() {
            int best = firstPlace();
            for (int t = best + 1; t < tapes - 1; t++) {
                if (places.at[t] > 0 && blanks[t] < blanks[best]) {
                    best = t;
                }
            }
            return best;
        }

        private int mostPlaces() {
            int best = 0;
            for (int t = 1; t < tapes - 1; t++) {
                if (places.at[t] > places.at[best]) {
                    best = t;
                }
            }
            return best;
        }

        private void writeBlanks() {
            for (int t = 0; t < tapes - 1; t++) {
                for (int i = 0; i < blanks[t]; i++) {
                    tape[t].write(DUMMY);
                }
            }
        }

        // -- a STEP

        private boolean gives(int t) {
            if (tape[t].size() == 0) {
                return false;
            }
            switch (way) {
                case POLYPHASE:
                    return t != to;
                case BALANCED:
                    return t < half == lowGives;
                default:
                    return open[t];
            }
        }

        /** What the next STEP will take, without taking it. */
        private void look() {
            lead = DUMMY;
            for (int t = 0; t < tapes; t++) {
                taken[t] = gives(t) ? tape[t].at(0, back) : ABSENT;
                if (lead == DUMMY && taken[t] >= 0) {
                    lead = taken[t];
                }
            }
            falling = back && lead != DUMMY && !isDown(lead);
        }

        private void advance() {
            look();
            boolean leadDown = back && isDown(lead);
            int moved = 0;
            for (int t = 0; t < tapes; t++) {
                if (taken[t] == ABSENT) {
                    continue;
                }
                tape[t].drop(back);
                left--;
                moved += sizeOf(taken[t]);
                if (isDown(taken[t]) != leadDown) {
                    tally[TURNED] += sizeOf(taken[t]);
                }
            }
            made = lead;
            if (made != DUMMY) {
                length[made] = moved;
                down[made] = falling;
            }
            tape[to].write(made);
            left++;
            tally[MOVES] += moved;
            tally[STEPS]++;
            if (way == BALANCED) {
                endBalancedPhase();
            } else {
                endNumberedPhase();
            }
            turnLast();
        }

        private void endNumberedPhase() {
            int emptied = emptiedTape();
            if (emptied == NONE) {
                return;
            }
            tally[PHASES]++;
            to = emptied;
            if (way == CASCADE) {
                open[emptied] = false;
                if (givers() < 2) {
                    openPass();
                }
            }
        }

        private int emptiedTape() {
            for (int t = 0; t < tapes; t++) {
                if (taken[t] != ABSENT && tape[t].size() == 0) {
                    return t;
                }
            }
            return NONE;
        }

        private int givers() {
            int givers = 0;
            for (int t = 0; t < tapes; t++) {
                if (gives(t)) {
                    givers++;
                }
            }
            return givers;
        }

        private void openPass() {
            for (int t = 0; t < tapes; t++) {
                open[t] = tape[t].size() > 0 && t != to;
            }
        }

        private void endBalancedPhase() {
            if (givers() == 0) {
                tally[PHASES]++;
                lowGives = !lowGives;
                to = firstToWrite();
                return;
            }
            int last = lowGives ? tapes - 1 : half - 1;
            to = to >= last ? firstToWrite() : to + 1;
        }

        private int firstToWrite() {
            return lowGives ? half : 0;
        }

        private void turnLast() {
            if (left != 1) {
                return;
            }
            for (int t = 0; t < tapes; t++) {
                int run = tape[t].at(0, back);
                if (isDown(run)) {
                    tally[TURNED] += length[run];
                    down[run] = false;
                }
            }
        }

        private void mergeAll() {
            for (int i = 0; i < STEP_BOUND && left > 1; i++) {
                advance();
            }
        }

        // -- what is asked of them

        private int sizeOf(int run) {
            return run >= 0 && run < loaded ? length[run] : 0;
        }

        private boolean isDown(int run) {
            return run >= 0 && run < loaded && down[run];
        }

        private int recordsOn(int t) {
            int sum = 0;
            for (int k = 0; k < tape[t].size(); k++) {
                sum += sizeOf(tape[t].at(k, back));
            }
            return sum;
        }

        /** Which TAPE gives a RUN to the STEP that was looked at last. */
        private int takenFrom(int run) {
            for (int t = 0; t < tapes; t++) {
                if (run >= 0 && taken[t] == run) {
                    return t;
                }
            }
            return NONE;
        }

        private int blocksTaken(int block) {
            int blocks = 0;
            for (int t = 0; t < tapes; t++) {
                if (taken[t] >= 0 && block > 0) {
                    blocks += (sizeOf(taken[t]) + block - 1) / block;
                }
            }
            return blocks;
        }

        /** How many RUNS each TAPE has, ten bits each. */
        private long stand() {
            long stand = 0;
            for (int t = 0; t < tapes; t++) {
                stand = stand * 1024 + tape[t].size();
            }
            return stand;
        }
    }
}
