/** Boundaries of promises 19 to 25, 29 and 30: what is told on paper. Each sentence by itself. */
public final class PaperEdgesTest {
    private static final int LOW = Integer.MIN_VALUE;
    private static final int HIGH = Integer.MAX_VALUE;
    private static final int[] NOTHING = {};

    /** In STAGE 0, 1, 2 or 3: three RUNS of two RECORDS. */
    private static RunTapes inStage(int stage, int tapes, int way) {
        RunTapes x = Make.twos(3, tapes, way);
        if (stage > 0) {
            x.grow();
        }
        if (stage > 1) {
            x.spread();
        }
        if (stage > 2) {
            x.all();
        }
        return x;
    }

    /** RUN 0 of 17 RECORDS on TAPE 0, RUN 1 of 16 (all LESS than those) on TAPE 1. */
    private static RunTapes seventeenAndSixteen() {
        int[] keys = new int[33];
        for (int i = 0; i < 16; i++) {
            keys[i] = 100 - i;
            keys[17 + i] = 60 - i;
        }
        keys[16] = 255;
        RunTapes x = Make.tell(Make.with(16, 3, 0), keys);
        x.grow();
        return x;
    }

    // ---- promise 19

    private static int[] nextLevel(int[] a, int way) {
        int k = a.length;
        int[] next = new int[k];
        for (int i = 0; i < k; i++) {
            if (way == 0) {
                next[i] = a[0] + (i + 1 < k ? a[i + 1] : 0);
            } else {
                for (int j = 0; j < k - i; j++) {
                    next[i] += a[j];
                }
            }
        }
        return next;
    }

    private static void perfectOfAllLevels() {
        Due.sentence(19, "PERFECT of a LEVEL (0 to 8), the t-th number (0 the first), by WAY and TAPES, t NONE: all together.");
        for (int way = 0; way <= 2; way += 2) {
            for (int tapes = 3; tapes <= 6; tapes++) {
                RunTapes x = Make.with(4, tapes, way);
                int[] numbers = new int[tapes - 1];
                numbers[0] = 1;
                for (int level = 0; level <= 8; level++) {
                    int sum = 0;
                    for (int t = 0; t < tapes - 1; t++) {
                        Due.due("perfect(" + level + ", " + t + ")", x.perfect(level, t), numbers[t]);
                        sum += numbers[t];
                    }
                    Due.due("perfect(" + level + ", -1)", x.perfect(level, -1), sum);
                    numbers = nextLevel(numbers, way);
                }
            }
        }
        Due.sentence(0, "LEVEL 0: 1, 0, .., 0");
        RunTapes y = Make.with(4, 6, 0);
        int[] ground = {1, 1, 0, 0, 0, 0};
        for (int t = -1; t < 5; t++) {
            Due.due("perfect(0, " + t + ")", y.perfect(0, t), ground[t + 1]);
        }
        y.settle(2, 2);
        y.settle(1, 5);
        // LEVEL 7 is 707 622 462 246
        int[] eight = {2037, 1791, 1329, 707};
        for (int t = 0; t < 4; t++) {
            Due.due("perfect(8, " + t + ")", y.perfect(8, t), eight[t]);
        }
    }

    private static void perfectOfOthers() {
        Due.sentence(19, "NONE for others, or with WAY 1.");
        for (int tapes = 3; tapes <= 6; tapes++) {
            RunTapes x = Make.with(4, tapes, 0);
            for (int way = 0; way <= 2; way++) {
                x.settle(2, way);
                int[] wrongLevels = {-1, -2, 9, 10, LOW, HIGH};
                for (int level : wrongLevels) {
                    Due.due("perfect(" + level + ", 0)", x.perfect(level, 0), -1);
                    Due.due("perfect(" + level + ", -1)", x.perfect(level, -1), -1);
                }
                int[] wrongTs = {-2, -3, tapes - 1, tapes, LOW, HIGH};
                for (int t : wrongTs) {
                    Due.due("perfect(0, " + t + ")", x.perfect(0, t), -1);
                    Due.due("perfect(8, " + t + ")", x.perfect(8, t), -1);
                }
                for (int t = -1; t < tapes - 1; t++) {
                    Due.due("perfect(1, " + t + ") by WAY " + way, x.perfect(1, t), way == 1 ? -1 : t == -1 ? tapes - 1 : 1);
                }
            }
        }
    }

    // ---- promise 20

    private static void planOfOneRun() {
        Due.sentence(20, "PLAN what 0: MOVES, 1: STEPS, 2: PHASES, 3: TURNED, 4: DUMMIES, 5: LEVEL (NONE with WAY 1).");
        for (int way = 0; way <= 2; way++) {
            for (int tapes = way == 1 ? 4 : 3; tapes <= 6; tapes++) {
                RunTapes one = Make.grownTwos(1, tapes, way);
                for (int what = 0; what < 6; what++) {
                    Due.due("plan(" + what + ") of one RUN", one.plan(what), what == 5 && way == 1 ? -1 : 0);
                }
                RunTapes two = Make.grownTwos(2, tapes, way);
                int[] due = {4, 1, 1, 0, way == 1 ? 0 : tapes - 3, way == 1 ? -1 : 1};
                for (int what = 0; what < 6; what++) {
                    Due.due("plan(" + what + ") of two RUNS", two.plan(what), due[what]);
                }
            }
        }
        for (int stage = 1; stage <= 3; stage++) {
            RunTapes x = inStage(stage, 3, 0);
            int[] due = {10, 2, 2, 0, 0, 2};
            int[] before = Make.counts(x);
            for (int what = 0; what < 6; what++) {
                Due.due("plan(" + what + ") in STAGE " + stage, x.plan(what), due[what]);
            }
            Due.dueAll("counts", Make.counts(x), before);
        }
    }

    private static void planOfOthers() {
        Due.sentence(20, "NONE for others, if RUNS are not GROWN, or WAY is 1 with 3 TAPES.");
        int[] wrong = {-1, -2, 6, 7, LOW, HIGH};
        for (int stage = 0; stage <= 3; stage++) {
            RunTapes x = inStage(stage, 4, 0);
            for (int what : wrong) {
                Due.due("plan(" + what + ") in STAGE " + stage, x.plan(what), -1);
            }
        }
        for (int what = 0; what < 6; what++) {
            Due.due("plan(" + what + ") of a new object", new RunTapes().plan(what), -1);
            Due.due("plan(" + what + ") in STAGE 0", inStage(0, 4, 0).plan(what), -1);
            Due.due("plan(" + what + ") of WAY 1 with 3 TAPES", inStage(1, 3, 1).plan(what), -1);
            Due.due("plan(" + what + ") of WAY 1 with 4 TAPES", inStage(1, 4, 1).plan(what), new int[] {12, 3, 2, 0, 0, -1}[what]);
        }
    }

    // ---- promise 21

    private static void plannedOfEach() {
        Due.sentence(21, "NONE, if RUNS are not GROWN, or for others (WAY 1 with 3 TAPES, too)");
        for (int stage = 0; stage <= 3; stage++) {
            RunTapes x = inStage(stage, 3, 0);
            int[] before = Make.counts(x);
            for (int way = -1; way <= 3; way++) {
                for (int tapes = 2; tapes <= 7; tapes++) {
                    for (int back = -1; back <= 2; back++) {
                        boolean known = way >= 0 && way <= 2 && tapes >= 3 && tapes <= 6 && back >= 0 && back <= 1;
                        boolean refused = stage == 0 || !known || way == 1 && tapes == 3;
                        Due.due("planned(" + way + ", " + tapes + ", " + back + ") in STAGE " + stage,
                            x.planned(way, tapes, back), refused ? -1 : movesOfThree(way, tapes));
                    }
                }
            }
            Due.dueAll("counts", Make.counts(x), before);
            int[] far = {LOW, HIGH};
            for (int one : far) {
                Due.due("planned of far WAY", x.planned(one, 4, 0), -1);
                Due.due("planned of far TAPES", x.planned(0, one, 0), -1);
                Due.due("planned of far BACK", x.planned(0, 4, one), -1);
            }
        }
        Due.due("planned of a new object", new RunTapes().planned(0, 4, 0), -1);
        Due.due("planned when WAY is 1 with 3 TAPES", inStage(1, 3, 1).planned(0, 3, 0), 10);
        Due.due("planned of one RUN", Make.grownTwos(1, 4, 0).planned(1, 4, 1), 0);
    }

    private static void plannedAsItIs() {
        Due.sentence(21, "MOVES of a PLAN with other SETTINGS (WAY, TAPES, BACK; ROOM, DUMMIES as they are, RUNS as they GREW)");
        for (int runs = 1; runs <= 12; runs++) {
            for (int dummies = 0; dummies <= 1; dummies++) {
                RunTapes x = Make.twos(runs, 3, 1);
                x.settle(3, dummies);
                x.settle(5, runs % 2);
                x.grow();
                for (int i = 0; i < 24; i++) {
                    int way = i / 8;
                    int tapes = 3 + i / 2 % 4;
                    int back = i % 2;
                    RunTapes y = Make.twos(runs, tapes, way);
                    y.settle(3, dummies);
                    y.settle(5, runs % 2);
                    y.settle(4, back);
                    y.grow();
                    Due.due("planned(" + way + ", " + tapes + ", " + back + ")", x.planned(way, tapes, back), y.plan(0));
                }
            }
        }
        RunTapes even = Make.grownTwos(6, 4, 0);
        RunTapes front = Make.twos(6, 4, 0);
        front.settle(3, 1);
        front.grow();
        // EVEN: DUMMIES alone, 6, 4, 12; FRONT: 4, 4, 6, 12
        Due.due("EVEN", even.planned(0, 4, 0), 22);
        Due.due("FRONT", front.planned(0, 4, 0), 26);
    }

    /** Three RUNS of two: two halves take two phases, three TAPES two steps, the others one step. */
    private static int movesOfThree(int way, int tapes) {
        if (way == 1) {
            return tapes == 6 ? 6 : 12;
        }
        return tapes == 3 ? 10 : 6;
    }

    // ---- promise 22

    private static void leastOfFew() {
        Due.sentence(22, "LEAST of k (2 to 5): MOVES");
        int[][] due = {{1, 0, 0, 0, 0}, {2, 4, 4, 4, 4}, {3, 10, 6, 6, 6}, {4, 16, 12, 8, 8}, {5, 24, 16, 14, 10}, {6, 32, 22, 18, 16}};
        for (int[] row : due) {
            for (int stage = 1; stage <= 3; stage++) {
                RunTapes x = Make.grownTwos(row[0], 4, 0);
                if (stage > 1) {
                    x.spread();
                }
                if (stage > 2) {
                    x.all();
                }
                for (int k = 2; k <= 5; k++) {
                    Due.due("least(" + k + ") of " + row[0] + " RUNS", x.least(k), row[k - 1]);
                }
            }
        }
        Due.sentence(0, "k at most MERGED at a time, in whatever order, till there is one: the fewest MOVES");
        RunTapes unlike = Make.tell(Make.with(2, 4, 0), 7, 3, 7, 1, 9, 2, 8, 0);
        unlike.grow();
        // RUNS of 4, 3, 1
        Due.due("least(2) of unlike RUNS", unlike.least(2), 4 + 8);
        Due.due("least(3) of unlike RUNS", unlike.least(3), 8);
        Due.due("least(2) of 17 and 16", seventeenAndSixteen().least(2), 33);
        Due.sentence(0, "(0 of one RUN.)");
        for (int k = 2; k <= 5; k++) {
            Due.due("least(" + k + ")", Make.grownTwos(1, 4, 0).least(k), 0);
        }
        Due.sentence(22, "NONE for others, or if RUNS are not GROWN");
        int[] wrong = {1, 0, -1, 6, 7, LOW, HIGH};
        for (int stage = 0; stage <= 3; stage++) {
            RunTapes x = inStage(stage, 4, 0);
            for (int k : wrong) {
                Due.due("least(" + k + ") in STAGE " + stage, x.least(k), -1);
            }
            for (int k = 2; k <= 5; k++) {
                Due.due("least(" + k + ") in STAGE " + stage, x.least(k), stage == 0 ? -1 : k == 2 ? 10 : 6);
            }
        }
        Due.due("least(2) of a new object", new RunTapes().least(2), -1);
        Due.due("least(2) when WAY is 1 with 3 TAPES", inStage(1, 3, 1).least(2), 10);
        RunTapes most = Make.grownTwos(150, 4, 0);
        // 44 RUNS become 22 (4 each), 106 stay two each: 128 of 7 levels: 22 * 4 + 7 * 300
        Due.due("least(2) of 150 RUNS", most.least(2), 22 * 4 + 7 * 300);
    }

    // ---- promise 23

    private static void depthOfEach() {
        Due.sentence(23, "how many STEPS of the PLAN move its RECORDS");
        Due.due("depth(0) of one RUN", Make.grownTwos(1, 4, 0).depth(0), 0);
        RunTapes two = Make.grownTwos(2, 4, 0);
        Due.due("depth(0) of two", two.depth(0), 1);
        Due.due("depth(1) of two", two.depth(1), 1);
        RunTapes three = Make.grownTwos(3, 3, 0);
        // places 2 1: RUN 0 to TAPE 0, then 1 1: RUN 1 to TAPE 0, RUN 2 to TAPE 1; the first STEP takes RUNS 0 and 2
        int[] due = {2, 1, 2};
        for (int k = 0; k < 3; k++) {
            Due.due("depth(" + k + ") of three", three.depth(k), due[k]);
        }
        Due.sentence(23, "NONE without it, or WAY is 1 with 3 TAPES");
        for (int stage = 0; stage <= 3; stage++) {
            RunTapes x = inStage(stage, 4, 0);
            int[] wrong = {-1, -2, 3, 4, 150, LOW, HIGH};
            for (int k : wrong) {
                Due.due("depth(" + k + ") in STAGE " + stage, x.depth(k), -1);
            }
            for (int k = 0; k < 3; k++) {
                Due.due("depth(" + k + ") in STAGE " + stage, x.depth(k), stage == 0 ? -1 : 1);
            }
        }
        Due.due("depth(0) of a new object", new RunTapes().depth(0), -1);
        Due.due("depth(0) of WAY 1 with 3 TAPES", inStage(1, 3, 1).depth(0), -1);
        Due.due("depth(0) of WAY 1 with 4 TAPES", inStage(1, 4, 1).depth(0), 2);
        RunTapes most = Make.grownTwos(150, 4, 1);
        Due.due("depth(149)", most.depth(149), 8);
        Due.due("depth(150)", most.depth(150), -1);
    }

    // ---- promise 24

    /** All RUNS of a TAPE are of one length there: how many and how long is enough. */
    private static int unitMoves(int[] count, int way) {
        int tapes = count.length;
        int[] size = new int[tapes];
        java.util.Arrays.fill(size, 1);
        boolean[] written = new boolean[tapes];
        int to = tapes - 1;
        written[to] = true;
        int moves = 0;
        while (java.util.Arrays.stream(count).sum() > 1) {
            int made = 0;
            int emptied = -1;
            int left = 0;
            for (int t = 0; t < tapes; t++) {
                if (count[t] > 0 && (way == 2 ? !written[t] : t != to)) {
                    made += size[t];
                    count[t]--;
                    left += count[t] > 0 ? 1 : 0;
                    emptied = count[t] == 0 && emptied == -1 ? t : emptied;
                }
            }
            count[to]++;
            size[to] = made;
            moves += made;
            if (emptied != -1) {
                to = emptied;
                if (left < 2) {
                    java.util.Arrays.fill(written, false);
                }
                written[to] = true;
            }
        }
        return moves;
    }

    private static void unitsOfLevels() {
        Due.sentence(24, "UNITS of a LEVEL (0 to 5)");
        int[] three = {0, 2, 5, 12, 25, 50};
        for (int level = 0; level <= 5; level++) {
            Due.due("units(" + level + ") of 3", Make.with(4, 3, 0).units(level), three[level]);
            Due.due("units(" + level + ") of 3 by CASCADE", Make.with(4, 3, 2).units(level), three[level]);
        }
        for (int way = 0; way <= 2; way += 2) {
            for (int tapes = 3; tapes <= 6; tapes++) {
                RunTapes x = Make.with(4, tapes, way);
                int[] numbers = new int[tapes - 1];
                numbers[0] = 1;
                for (int level = 0; level <= 5; level++) {
                    int want = unitMoves(java.util.Arrays.copyOf(numbers, tapes), way);
                    Due.due("units(" + level + ") of " + tapes + " by WAY " + way, x.units(level), want);
                    x.settle(4, 1);
                    Due.due("units(" + level + ") with BACK", x.units(level), want);
                    x.settle(4, 0);
                    numbers = nextLevel(numbers, way);
                }
            }
        }
        Due.sentence(24, "NONE for others, or with WAY 1.");
        int[] wrong = {-1, -2, 6, 7, 8, LOW, HIGH};
        for (int way = 0; way <= 2; way++) {
            RunTapes x = Make.with(4, 6, way);
            for (int level : wrong) {
                Due.due("units(" + level + ") by WAY " + way, x.units(level), -1);
            }
            Due.due("units(0) by WAY " + way, x.units(0), way == 1 ? -1 : 0);
            Due.due("units(5) by WAY " + way, Math.min(1, x.units(5)), way == 1 ? -1 : 1);
        }
        for (int stage = 0; stage <= 3; stage++) {
            Due.due("units(2) in STAGE " + stage, inStage(stage, 4, 2).units(2), 11);
        }
    }

    // ---- promise 25

    private static void standsOfFew() {
        Due.sentence(25, "STANDS of a PLAN: how many unlike");
        for (int way = 0; way <= 2; way++) {
            Due.due("stands() of one RUN", Make.grownTwos(1, 4, way).stands(), 1);
            Due.due("stands() of two RUNS", Make.grownTwos(2, 4, way).stands(), 2);
        }
        // 10 on 4 TAPES: 5 STEPS, 3 (one of them moves a RUN alone), 2, 1
        Due.due("stands() of ten, BALANCED", Make.grownTwos(10, 4, 1).stands(), 12);
        Due.due("stands() of 150 with 83 DUMMIES", Make.grownTwos(150, 3, 0).stands(), 233);
        Due.sentence(25, "NONE, if RUNS are not GROWN, or WAY is 1 with 3 TAPES");
        Due.due("stands() of a new object", new RunTapes().stands(), -1);
        for (int stage = 0; stage <= 3; stage++) {
            Due.due("stands() in STAGE " + stage, inStage(stage, 3, 0).stands(), stage == 0 ? -1 : 3);
        }
        Due.due("stands() of WAY 1 with 3 TAPES", inStage(1, 3, 1).stands(), -1);
        Due.due("stands() of WAY 1 with 4 TAPES", inStage(1, 4, 1).stands(), 4);
    }

    // ---- promise 29

    private static void forecastOfBlocks() {
        Due.sentence(29, "FORECAST of B (1 to 16) what k (0 the first): the k-th TAPE, NONE: how many; -2: there are not so many.");
        RunTapes x = seventeenAndSixteen();
        x.spread();
        Due.due("RECORDS of RUN 0", x.on(0, 0, -1), 17);
        Due.due("RECORDS of RUN 1", x.on(1, 0, -1), 16);
        Due.due("forecast(16, -1)", x.forecast(16, -1), 1);
        Due.due("forecast(16, 0)", x.forecast(16, 0), 0);
        Due.due("forecast(16, 1)", x.forecast(16, 1), -2);
        Due.due("forecast(16, highest)", x.forecast(16, HIGH), -2);
        Due.dueAll("forecast of 15", Make.forecast(x, 15), 1, 0);
        Due.dueAll("forecast of 8", Make.forecast(x, 8), 1, 0, 0);
        int[] ones = new int[31];
        java.util.Arrays.fill(ones, 0, 15, 1);
        Due.dueAll("forecast of 1", Make.forecast(x, 1), ones);
        Due.due("forecast(1, 30)", x.forecast(1, 30), 0);
        Due.due("forecast(1, 31)", x.forecast(1, 31), -2);
        Due.sentence(0, "the next one of its RUN is fetched, if there is one");
        RunTapes y = Make.spreadTwos(4, 4, 0);
        // a DUMMY of TAPE 0, RUN 0 (149 255) of TAPE 1, RUN 3 (146 252) of TAPE 2
        Due.dueAll("with a DUMMY", Make.forecast(y, 1), 2, 1);
        Due.dueAll("of as many as there are", Make.forecast(y, 2), NOTHING);
        Due.due("forecast(2, 0)", y.forecast(2, 0), -2);
        Due.dueAll("of more than there are", Make.forecast(y, 3), NOTHING);
        RunTapes z = Make.spreadTwos(6, 6, 2);
        Due.due("of DUMMIES alone", z.forecast(1, -1), 0);
        Due.due("of DUMMIES alone", z.forecast(1, 0), -2);
        Due.sentence(0, "as they come there (TURNED ones too)");
        RunTapes turns = Make.tell(Make.with(2, 4, 0), 10, 20, 5, 15, 14, 16, 7, 3, 9, 8);
        turns.settle(5, 1);
        turns.settle(4, 1);
        turns.grow();
        turns.spread();
        // falling: 16 of TAPE 1, 9 and 8 of TAPE 2, 7 of TAPE 1, 3 of TAPE 2
        Due.dueAll("falling, of 1", Make.forecast(turns, 1), 1, 2, 2);
        Due.dueAll("falling, of 2", Make.forecast(turns, 2), 2);
        Due.dueAll("falling, of 3", Make.forecast(turns, 3), NOTHING);
    }

    private static void forecastOfOthers() {
        Due.sentence(29, "NONE without these (k below NONE, too), if RUNS are not SPREAD, or all is MERGED.");
        RunTapes x = seventeenAndSixteen();
        x.spread();
        int[] wrongBlocks = {0, -1, 17, 18, LOW, HIGH};
        for (int block : wrongBlocks) {
            Due.due("forecast(" + block + ", -1)", x.forecast(block, -1), -1);
            Due.due("forecast(" + block + ", 0)", x.forecast(block, 0), -1);
        }
        int[] wrongKs = {-2, -3, LOW};
        for (int k : wrongKs) {
            Due.due("forecast(1, " + k + ")", x.forecast(1, k), -1);
            Due.due("forecast(16, " + k + ")", x.forecast(16, k), -1);
        }
        Due.due("forecast(1, -1) of a new object", new RunTapes().forecast(1, -1), -1);
        for (int stage = 0; stage <= 3; stage++) {
            RunTapes y = inStage(stage, 4, 0);
            Due.due("forecast(1, -1) in STAGE " + stage, y.forecast(1, -1), stage == 2 ? 3 : -1);
            Due.due("forecast(16, -1) in STAGE " + stage, y.forecast(16, -1), stage == 2 ? 0 : -1);
            Due.due("forecast(1, 0) in STAGE " + stage, y.forecast(1, 0), stage == 2 ? 2 : -1);
            Due.due("forecast(1, 3) in STAGE " + stage, y.forecast(1, 3), stage == 2 ? -2 : -1);
        }
        Due.due("of one RUN", Make.spreadTwos(1, 4, 0).forecast(1, -1), -1);
    }

    // ---- promise 30

    private static void needsOfBlocks() {
        Due.sentence(30, "How many BLOCKS of B (1 to 16) all STEPS that are left read on a PLAN from now on (of each RUN that is taken, without DUMMIES, RECORDS by B, upwards)");
        RunTapes x = seventeenAndSixteen();
        x.spread();
        int[] due = {33, 17, 12, 9, 8, 6, 6, 5, 4, 4, 4, 4, 4, 4, 4, 3};
        for (int block = 1; block <= 16; block++) {
            Due.due("needs(" + block + ")", x.needs(block), due[block - 1]);
        }
        RunTapes y = Make.spreadTwos(6, 6, 2);
        // two STEPS of DUMMIES; three RUNS of 2; two of 2 (and none else); the last one takes 6, 4, 2
        Due.due("needs(1) with DUMMIES", y.needs(1), y.plan(0));
        int all = y.needs(16);
        y.step();
        Due.due("needs(16) behind DUMMIES alone", y.needs(16), all);
        y.step();
        Due.due("needs(16) behind DUMMIES alone", y.needs(16), all);
        y.all();
        Due.due("needs(16) when MERGED", y.needs(16), 0);
        RunTapes z = Make.spreadTwos(3, 3, 0);
        Due.due("needs(1)", z.needs(1), 10);
        Due.due("needs(2)", z.needs(2), 5);
        Due.due("needs(3)", z.needs(3), 5);
        Due.due("needs(4)", z.needs(4), 4);
        z.step();
        Due.due("needs(3) from now on", z.needs(3), 3);
        Due.due("needs(4) from now on", z.needs(4), 2);
    }

    private static void needsOfOthers() {
        Due.sentence(30, "NONE for others, if RUNS are not SPREAD (0: all is MERGED)");
        int[] wrong = {0, -1, 17, 18, LOW, HIGH};
        for (int stage = 0; stage <= 3; stage++) {
            RunTapes x = inStage(stage, 4, 0);
            int[] before = Make.counts(x);
            for (int block : wrong) {
                Due.due("needs(" + block + ") in STAGE " + stage, x.needs(block), -1);
            }
            Due.due("needs(1) in STAGE " + stage, x.needs(1), stage < 2 ? -1 : stage == 2 ? 6 : 0);
            Due.due("needs(16) in STAGE " + stage, x.needs(16), stage < 2 ? -1 : stage == 2 ? 3 : 0);
            Due.dueAll("counts", Make.counts(x), before);
        }
        Due.due("needs(1) of a new object", new RunTapes().needs(1), -1);
        Due.due("needs(1) of one RUN", Make.spreadTwos(1, 4, 0).needs(1), 0);
    }

    public static void main(String[] args) {
        perfectOfAllLevels();
        perfectOfOthers();
        planOfOneRun();
        planOfOthers();
        plannedOfEach();
        plannedAsItIs();
        leastOfFew();
        depthOfEach();
        unitsOfLevels();
        standsOfFew();
        forecastOfBlocks();
        forecastOfOthers();
        needsOfBlocks();
        needsOfOthers();
        Due.finish();
    }
}
