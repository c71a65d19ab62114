/** Boundaries of promises 9 to 18 and of the Terms that tell how RUNS are GROWN, SPREAD and MERGED. Each sentence by itself. */
public final class MergingEdgesTest {
    private static final int LOW = Integer.MIN_VALUE;
    private static final int HIGH = Integer.MAX_VALUE;
    private static final int[] NOTHING = {};

    private static RunTapes fallingKeys(int n, int room) {
        int[] keys = new int[n];
        for (int i = 0; i < n; i++) {
            keys[i] = 255 - i;
        }
        return Make.tell(Make.with(room, 4, 0), keys);
    }

    /** BY TURNS: RUNS 0 1 (UP) / 3 4 2 (DOWN) / 6 5 (UP) / 8 9 7 (DOWN). */
    private static RunTapes fourByTurns(int tapes, int back) {
        RunTapes x = Make.tell(Make.with(2, tapes, 0), 10, 20, 5, 15, 14, 16, 7, 3, 9, 8);
        x.settle(5, 1);
        x.settle(4, back);
        x.grow();
        return x;
    }

    /** In STAGE 0, 1, 2 or 3: three RUNS of two RECORDS. */
    private static RunTapes inStage(int stage) {
        RunTapes x = Make.twos(3, 3, 0);
        if (stage > 0) {
            x.grow();
        }
        if (stage > 1) {
            x.spread();
        }
        if (stage > 2) {
            x.all();
        }
        return x;
    }

    // ---- promise 9, and how RUNS grow

    private static void asManyAsTheRoomHasPlaceFor() {
        Due.sentence(0, "at first the first RECORDS come into the ROOM, as many as it has place for, all of RUN 0");
        int[] rooms = {2, 3, 4, 15, 16};
        for (int room : rooms) {
            RunTapes fewer = fallingKeys(room - 1, room);
            Due.due("one fewer than ROOM " + room, fewer.grow(), 1);
            RunTapes asMany = fallingKeys(room, room);
            Due.due("as many as ROOM " + room, asMany.grow(), 1);
            RunTapes more = fallingKeys(room + 1, room);
            Due.due("one more than ROOM " + room, more.grow(), 2);
            Due.dueAll("lengths", Make.lengths(more), room, 1);
        }
    }

    private static void theNextRecordIsNotLess() {
        Due.sentence(0, "the next RECORD (if there is one) comes in: of this RUN, if it is not LESS than that which went out, else of the next RUN");
        RunTapes below = Make.tell(Make.with(2, 4, 0), 5, 6, 4);
        Due.due("KEY one below", below.grow(), 2);
        Due.dueAll("RUN 0", Make.run(below, 0), 0, 1);
        Due.dueAll("RUN 1", Make.run(below, 1), 2);
        RunTapes like = Make.tell(Make.with(2, 4, 0), 5, 6, 5);
        Due.due("a like KEY", like.grow(), 1);
        Due.dueAll("RUN 0", Make.run(like, 0), 0, 2, 1);
        RunTapes above = Make.tell(Make.with(2, 4, 0), 5, 6, 6);
        Due.due("KEY one above", above.grow(), 1);
        Due.dueAll("RUN 0", Make.run(above, 0), 0, 1, 2);
        RunTapes alike = new RunTapes();
        alike.drawn(100, 1);
        Due.due("like KEYS alone", alike.grow(), 1);
        Due.due("the last one", alike.run(0, 99), 99);
    }

    private static void theNextRunBegins() {
        Due.sentence(0, "If none in it is of this RUN, the next RUN begins; till it is empty.");
        RunTapes one = Make.tell(Make.with(16, 4, 0), 0);
        Due.due("one RECORD", one.grow(), 1);
        Due.dueAll("RUN 0", Make.run(one, 0), 0);
        RunTapes falling = fallingKeys(33, 16);
        Due.due("33 in ROOM 16", falling.grow(), 3);
        Due.dueAll("lengths", Make.lengths(falling), 16, 16, 1);
        RunTapes most = Make.twos(150, 4, 0);
        Due.due("300 RECORDS, two by two", most.grow(), 150);
        Due.dueAll("the last RUN", Make.run(most, 149), 298, 299);
        int sum = 0;
        RunTapes full = Make.full();
        full.grow();
        for (int length : Make.lengths(full)) {
            sum += length;
        }
        Due.due("all go out", sum, 300);
    }

    private static void byTurnsTheNextRecordIsLess() {
        Due.sentence(0, "the next RECORD is of this RUN, if it is LESS than that which went out, else of the next RUN");
        RunTapes below = Make.tell(Make.with(2, 4, 0), 9, 9, 3, 3, 2);
        below.settle(5, 1);
        Due.due("KEY one below", below.grow(), 2);
        Due.dueAll("RUN 1", Make.run(below, 1), 3, 2, 4);
        RunTapes like = Make.tell(Make.with(2, 4, 0), 9, 9, 3, 3, 3);
        like.settle(5, 1);
        Due.due("a like KEY", like.grow(), 3);
        Due.dueAll("RUN 1", Make.run(like, 1), 3, 2);
        Due.dueAll("RUN 2", Make.run(like, 2), 4);
        RunTapes above = Make.tell(Make.with(2, 4, 0), 9, 9, 3, 3, 4);
        above.settle(5, 1);
        Due.due("KEY one above", above.grow(), 3);
        Due.sentence(0, "BY TURNS RUNS 1, 3, .. fall");
        RunTapes four = fourByTurns(4, 0);
        Due.due("RUNS", four.count(1), 4);
        Due.dueAll("RUN 0", Make.run(four, 0), 0, 1);
        Due.dueAll("RUN 1", Make.run(four, 1), 3, 4, 2);
        Due.dueAll("RUN 2", Make.run(four, 2), 6, 5);
        Due.dueAll("RUN 3", Make.run(four, 3), 8, 9, 7);
        for (int k = 0; k < 4; k++) {
            Due.due("run(" + k + ", -2)", four.run(k, -2), k % 2);
        }
    }

    private static void growOnce() {
        Due.sentence(9, "GROWN: how many RUNS");
        Due.due("grow()", inStage(0).grow(), 3);
        Due.sentence(9, "-2, and nothing happens: they are");
        for (int stage = 1; stage <= 3; stage++) {
            RunTapes x = inStage(stage);
            int[] before = Make.counts(x);
            Due.due("grow() in STAGE " + stage, x.grow(), -2);
            Due.dueAll("counts", Make.counts(x), before);
        }
        Due.sentence(9, "NONE, and nothing happens, without RECORDS");
        RunTapes x = new RunTapes();
        Due.due("grow() of a new object", x.grow(), -1);
        Due.due("STAGE", x.count(7), 0);
        Due.due("ACTS", x.count(12), 0);
        RunTapes y = inStage(3);
        y.clear();
        int[] before = Make.counts(y);
        Due.due("grow() when CLEARED", y.grow(), -1);
        Due.dueAll("counts", Make.counts(y), before);
        y.drawn(1, 1);
        Due.due("grow() of one RECORD", y.grow(), 1);
    }

    // ---- promise 10, and how RUNS are spread

    /** What PERFECT numbers of LEVEL 0, 1, .. are together, by TAPES 3 to 6. */
    private static final int[][] POLYPHASE = {{1, 2, 3, 5, 8, 13, 21, 34, 55, 89, 144, 233}, {1, 3, 5, 9, 17, 31, 57, 105, 193},
        {1, 4, 7, 13, 25, 49, 94, 181}, {1, 5, 9, 17, 33, 65, 129, 253}};
    private static final int[][] CASCADE = {{1, 2, 3, 5, 8, 13, 21, 34, 55, 89, 144, 233}, {1, 3, 6, 14, 31, 70, 157},
        {1, 4, 10, 30, 85, 246}, {1, 5, 15, 55, 190}};

    private static void theLeastLevel() {
        Due.sentence(0, "the LEVEL is the least whose numbers together are as many as RUNS at least");
        for (int way = 0; way <= 2; way += 2) {
            for (int tapes = 3; tapes <= 6; tapes++) {
                int[] together = (way == 0 ? POLYPHASE : CASCADE)[tapes - 3];
                for (int level = 0; level < together.length; level++) {
                    for (int runs = together[level] - 1; runs <= together[level] + 1; runs++) {
                        if (runs >= 1 && runs <= 150) {
                            levelDue(runs, tapes, way, together);
                        }
                    }
                }
            }
        }
    }

    private static void levelDue(int runs, int tapes, int way, int[] together) {
        int level = 0;
        while (together[level] < runs) {
            level++;
        }
        RunTapes x = Make.grownTwos(runs, tapes, way);
        String call = " of " + runs + " RUNS, TAPES " + tapes + ", WAY " + way;
        Due.due("LEVEL" + call, x.plan(5), level);
        Due.due("DUMMIES" + call, x.plan(4), together[level] - runs);
        Due.due("spread()" + call, x.spread(), together[level] - runs);
        int[] there = Make.tapes(x, 0);
        int sum = 0;
        for (int t = 0; t < tapes - 1; t++) {
            if (level <= 8) {
                Due.due("TAPE " + t + call, there[t], x.perfect(level, t));
            }
            sum += there[t];
        }
        Due.due("all together" + call, sum, together[level]);
        Due.due("the last TAPE" + call, there[tapes - 1], 0);
    }

    private static void evenDummies() {
        Due.sentence(0, "EVEN: one by one to the TAPE that has the fewest DUMMIES so far (and not its whole number), of like ones the first");
        int[][] due = {{15, 0, 0, 0, 0, 0, 0}, {14, 1, 0, 0, 0, 0, 0}, {11, 1, 1, 1, 1, 0, 0}, {10, 1, 1, 1, 1, 1, 0},
            {9, 2, 1, 1, 1, 1, 0}, {7, 2, 2, 2, 1, 1, 0}, {6, 2, 2, 2, 2, 1, 0}, {16, 9, 9, 8, 8, 5, 0},
            {56, 30, 30, 30, 29, 15, 0}};
        for (int[] row : due) {
            RunTapes x = Make.spreadTwos(row[0], 6, 2);
            Due.dueAll("DUMMIES of " + row[0] + " RUNS", Make.tapes(x, 1), java.util.Arrays.copyOfRange(row, 1, 7));
        }
    }

    private static void frontDummies() {
        Due.sentence(0, "FRONT: TAPE 0 gets as many as its number, then TAPE 1, and so on, till there are no more");
        int[][] due = {{15, 0, 0, 0, 0, 0, 0}, {14, 1, 0, 0, 0, 0, 0}, {11, 4, 0, 0, 0, 0, 0}, {10, 5, 0, 0, 0, 0, 0},
            {9, 5, 1, 0, 0, 0, 0}, {7, 5, 3, 0, 0, 0, 0}, {6, 5, 4, 0, 0, 0, 0}, {16, 15, 14, 10, 0, 0, 0},
            {56, 55, 50, 29, 0, 0, 0}};
        for (int[] row : due) {
            RunTapes x = Make.twos(row[0], 6, 2);
            x.settle(3, 1);
            x.grow();
            x.spread();
            Due.dueAll("DUMMIES of " + row[0] + " RUNS", Make.tapes(x, 1), java.util.Arrays.copyOfRange(row, 1, 7));
        }
    }

    private static void theMostPlacesLeft() {
        Due.sentence(0, "to the TAPE that has the most places left (its number less DUMMIES and RUNS there), of like ones the first");
        RunTapes x = Make.twos(6, 6, 2);
        x.settle(3, 1);
        x.grow();
        x.spread();
        // 5 and 4 places are full of DUMMIES; 3 2 1 are left: TAPES 2 2 3 2 3 4
        Due.dueAll("TAPE 0", Make.on(x, 0), -3, -3, -3, -3, -3);
        Due.dueAll("TAPE 1", Make.on(x, 1), -3, -3, -3, -3);
        Due.dueAll("TAPE 2", Make.on(x, 2), 0, 2, 6);
        Due.dueAll("TAPE 3", Make.on(x, 3), 4, 8);
        Due.dueAll("TAPE 4", Make.on(x, 4), 10);
        Due.dueAll("TAPE 5", Make.on(x, 5), NOTHING);
        RunTapes y = Make.spreadTwos(3, 4, 0);
        // 1 1 1: of like ones the first
        Due.dueAll("TAPE 0", Make.on(y, 0), 0);
        Due.dueAll("TAPE 1", Make.on(y, 1), 2);
        Due.dueAll("TAPE 2", Make.on(y, 2), 4);
    }

    private static void dummiesAheadOfRuns() {
        Due.sentence(0, "DUMMIES are taken ahead of RUNS.");
        RunTapes x = Make.spreadTwos(7, 6, 2);
        // DUMMIES 2 2 2 1 1 of 5 4 3 2 1; RUNS to TAPES 0 0 1 0 1 2 3
        Due.dueAll("TAPE 0", Make.on(x, 0), -3, -3, 0, 2, 6);
        Due.dueAll("TAPE 1", Make.on(x, 1), -3, -3, 4, 8);
        Due.dueAll("TAPE 2", Make.on(x, 2), -3, -3, 10);
        Due.dueAll("TAPE 3", Make.on(x, 3), -3, 12);
        Due.dueAll("TAPE 4", Make.on(x, 4), -3);
        Due.sentence(0, "(at first: DUMMIES, then the RUN that came last)");
        x.settle(4, 1);
        x.grow();
        x.spread();
        Due.dueAll("TAPE 0", Make.on(x, 0), -3, -3, 6, 2, 0);
        Due.dueAll("TAPE 1", Make.on(x, 1), -3, -3, 8, 4);
        Due.dueAll("TAPE 2", Make.on(x, 2), -3, -3, 10);
        Due.dueAll("TAPE 3", Make.on(x, 3), -3, 12);
        Due.dueAll("TAPE 4", Make.on(x, 4), -3);
    }

    private static void halfOfTheTapes() {
        Due.sentence(0, "h is half of TAPES, downwards; RUN i comes to TAPE i, of h the rest; no DUMMIES");
        int[][] due = {{1, 4, 1, 0, 0, 0}, {2, 4, 1, 1, 0, 0}, {3, 4, 2, 1, 0, 0}, {4, 4, 2, 2, 0, 0}, {5, 4, 3, 2, 0, 0},
            {1, 5, 1, 0, 0, 0, 0}, {2, 5, 1, 1, 0, 0, 0}, {3, 5, 2, 1, 0, 0, 0}, {1, 6, 1, 0, 0, 0, 0, 0},
            {2, 6, 1, 1, 0, 0, 0, 0}, {3, 6, 1, 1, 1, 0, 0, 0}, {4, 6, 2, 1, 1, 0, 0, 0}, {150, 4, 75, 75, 0, 0},
            {150, 6, 50, 50, 50, 0, 0, 0}};
        for (int[] row : due) {
            RunTapes x = Make.grownTwos(row[0], row[1], 1);
            Due.due("spread()", x.spread(), 0);
            String call = "RUNS of " + row[0] + " on " + row[1];
            Due.dueAll(call, Make.tapes(x, 0), java.util.Arrays.copyOfRange(row, 2, row.length));
            Due.due("DUMMIES", x.plan(4), 0);
        }
        RunTapes y = Make.spreadTwos(7, 6, 1);
        Due.dueAll("TAPE 0", Make.on(y, 0), 0, 6, 12);
        Due.dueAll("TAPE 1", Make.on(y, 1), 2, 8);
        Due.dueAll("TAPE 2", Make.on(y, 2), 4, 10);
        y.settle(4, 1);
        y.grow();
        y.spread();
        Due.dueAll("TAPE 0 with BACK", Make.on(y, 0), 12, 6, 0);
    }

    private static void toAtFirst() {
        Due.sentence(0, "TO: where RUNS are written: the last TAPE; by BALANCED TAPE h.");
        for (int tapes = 3; tapes <= 6; tapes++) {
            Due.due("TO by POLYPHASE", Make.to(Make.spreadTwos(2, tapes, 0)), tapes - 1);
            Due.due("TO by CASCADE", Make.to(Make.spreadTwos(2, tapes, 2)), tapes - 1);
            if (tapes > 3) {
                Due.due("TO by BALANCED", Make.to(Make.spreadTwos(2, tapes, 1)), tapes / 2);
            }
        }
    }

    private static void spreadOnce() {
        Due.sentence(10, "SPREAD: how many DUMMIES");
        RunTapes x = Make.grownTwos(4, 3, 0);
        Due.due("spread()", x.spread(), 1);
        Due.sentence(10, "-2, and nothing happens: they are");
        for (int stage = 2; stage <= 3; stage++) {
            RunTapes y = inStage(stage);
            int[] before = Make.counts(y);
            Due.due("spread() in STAGE " + stage, y.spread(), -2);
            Due.dueAll("counts", Make.counts(y), before);
        }
        Due.sentence(10, "NONE, and nothing happens, if RUNS are not GROWN, or WAY is 1 with 3 TAPES");
        Due.due("spread() of a new object", new RunTapes().spread(), -1);
        RunTapes z = inStage(0);
        int[] before = Make.counts(z);
        Due.due("spread() in STAGE 0", z.spread(), -1);
        Due.dueAll("counts", Make.counts(z), before);
        for (int way = 0; way <= 2; way++) {
            for (int tapes = 3; tapes <= 4; tapes++) {
                RunTapes w = Make.grownTwos(2, tapes, way);
                int acts = w.count(12);
                boolean refused = way == 1 && tapes == 3;
                Due.due("spread() by WAY " + way + ", TAPES " + tapes, w.spread(), refused ? -1 : way == 1 ? 0 : tapes - 3);
                Due.due("STAGE", w.count(7), refused ? 1 : 2);
                Due.due("ACTS", w.count(12), acts + (refused ? 0 : 1));
            }
        }
        RunTapes one = Make.grownTwos(1, 3, 1);
        Due.due("one RUN by WAY 1 with 3 TAPES", one.spread(), -1);
    }

    private static void mergedAtOnce() {
        Due.sentence(0, "3: all is MERGED (one RUN is left; DUMMIES count, too)");
        for (int way = 0; way <= 2; way++) {
            for (int tapes = way == 1 ? 4 : 3; tapes <= 6; tapes++) {
                RunTapes one = Make.spreadTwos(1, tapes, way);
                Due.due("STAGE of one RUN", one.count(7), 3);
                Due.dueAll("sorted", Make.sorted(one), 0, 1);
                for (int what = 8; what <= 11; what++) {
                    Due.due("count(" + what + ")", one.count(what), 0);
                }
                Due.due("its TAPE", one.tape(0, 0), 1);
                RunTapes two = Make.spreadTwos(2, tapes, way);
                Due.due("STAGE of two RUNS", two.count(7), 2);
                two.all();
                Due.due("STAGE of two RUNS that are MERGED", two.count(7), 3);
            }
        }
        // 3 2 1 with DUMMIES on TAPES 0 and 1: a STEP of DUMMIES and one RUN leaves more than one
        RunTapes x = Make.spreadTwos(4, 4, 2);
        Due.due("STAGE with DUMMIES", x.count(7), 2);
        x.step();
        Due.due("STAGE with DUMMIES", x.count(7), 2);
    }

    // ---- promises 11 to 13, and what steps do

    private static void stepPhaseAllAheadOfSpread() {
        Due.sentence(11, "NONE, and nothing happens, if RUNS are not SPREAD");
        for (int stage = 0; stage <= 1; stage++) {
            RunTapes x = inStage(stage);
            int[] before = Make.counts(x);
            Due.due("step() in STAGE " + stage, x.step(), -1);
            Due.dueAll("counts", Make.counts(x), before);
        }
        Due.due("step() of a new object", new RunTapes().step(), -1);
        Due.sentence(12, "NONE, and nothing happens, if RUNS are not SPREAD");
        for (int stage = 0; stage <= 1; stage++) {
            RunTapes x = inStage(stage);
            int[] before = Make.counts(x);
            Due.due("phase() in STAGE " + stage, x.phase(), -1);
            Due.dueAll("counts", Make.counts(x), before);
        }
        Due.due("phase() of a new object", new RunTapes().phase(), -1);
        Due.sentence(13, "NONE, and nothing happens, if RUNS are not SPREAD");
        for (int stage = 0; stage <= 1; stage++) {
            RunTapes x = inStage(stage);
            int[] before = Make.counts(x);
            Due.due("all() in STAGE " + stage, x.all(), -1);
            Due.dueAll("counts", Make.counts(x), before);
        }
        Due.due("all() of a new object", new RunTapes().all(), -1);
    }

    private static void stepPhaseAllWhenMerged() {
        Due.sentence(11, "-2, and nothing happens: all is MERGED");
        RunTapes x = inStage(3);
        int[] before = Make.counts(x);
        Due.due("step()", x.step(), -2);
        Due.dueAll("counts", Make.counts(x), before);
        Due.due("step() of one RUN", Make.spreadTwos(1, 4, 0).step(), -2);
        Due.sentence(12, "-2, and nothing happens: all is MERGED");
        Due.due("phase()", x.phase(), -2);
        Due.dueAll("counts", Make.counts(x), before);
        Due.due("phase() of one RUN", Make.spreadTwos(1, 4, 1).phase(), -2);
        Due.sentence(13, "-2, and nothing happens: all is");
        Due.due("all()", x.all(), -2);
        Due.dueAll("counts", Make.counts(x), before);
        Due.due("all() of one RUN", Make.spreadTwos(1, 4, 2).all(), -2);
    }

    private static void aStepMoves() {
        Due.sentence(11, "A STEP: how many RECORDS it moved");
        RunTapes x = Make.spreadTwos(3, 3, 0);
        Due.due("step()", x.step(), 4);
        Due.due("the last step()", x.step(), 6);
        Due.due("step() behind the last", x.step(), -2);
        Due.sentence(0, "DUMMIES alone give a DUMMY.");
        RunTapes y = Make.spreadTwos(6, 6, 2);
        // DUMMIES 2 2 2 2 1 of 5 4 3 2 1: the first STEP and the second one take DUMMIES alone
        Due.due("step() of five DUMMIES", y.step(), 0);
        Due.dueAll("RUNS", Make.tapes(y, 0), 4, 3, 2, 1, 0, 1);
        Due.dueAll("DUMMIES", Make.tapes(y, 1), 1, 1, 1, 1, 0, 1);
        Due.due("it has no RECORDS", y.on(5, 0, -1), 0);
        Due.due("it stands UP", y.on(5, 0, -2), 0);
        Due.due("step() of four DUMMIES", y.step(), 0);
        Due.dueAll("DUMMIES", Make.tapes(y, 1), 0, 0, 0, 0, 1, 1);
        Due.due("STEPS", y.count(9), 2);
        Due.due("PHASES", y.count(10), 2);
        Due.due("MOVES", y.count(8), 0);
    }

    private static void phaseGoesToItsEnd() {
        Due.sentence(12, "STEPS as long as the PHASE is the one it is: how many");
        RunTapes x = Make.spreadTwos(17, 4, 0);
        int[] due = {4, 2, 1, 1};
        for (int steps : due) {
            Due.due("phase()", x.phase(), steps);
        }
        Due.due("phase() behind the last", x.phase(), -2);
        RunTapes y = Make.spreadTwos(17, 4, 0);
        y.step();
        Due.due("the rest of a PHASE", y.phase(), 3);
        y.step();
        Due.due("the last STEP of a PHASE", y.phase(), 1);
        Due.due("PHASES", y.count(10), 2);
        RunTapes z = Make.spreadTwos(2, 4, 1);
        Due.due("one STEP", z.phase(), 1);
        Due.due("STAGE", z.count(7), 3);
    }

    private static void allGoesToTheEnd() {
        Due.sentence(13, "STEPS till all is MERGED: how many");
        RunTapes x = Make.spreadTwos(17, 4, 0);
        Due.due("all()", x.all(), 8);
        Due.due("all() again", x.all(), -2);
        RunTapes y = Make.spreadTwos(17, 4, 0);
        for (int i = 0; i < 7; i++) {
            y.step();
        }
        Due.due("the last STEP", y.all(), 1);
        RunTapes most = Make.spreadTwos(150, 3, 0);
        // 89 + 144 RUNS and DUMMIES, two become one
        Due.due("all() of 150", most.all(), 232);
        Due.due("STAGE", most.count(7), 3);
        Due.due("the first of all", most.sorted(0), 298);
        Due.due("the last of all", most.sorted(299), 1);
    }

    private static void mergedRunsHaveAll() {
        Due.sentence(0, "they are MERGED to one, which is written on TO");
        for (int way = 0; way <= 2; way++) {
            for (int runs = 2; runs <= 14; runs++) {
                RunTapes x = Make.spreadTwos(runs, 4, way);
                x.all();
                int[] rising = new int[2 * runs];
                for (int i = 0; i < runs; i++) {
                    rising[i] = 2 * (runs - 1 - i);
                    rising[runs + i] = rising[i] + 1;
                }
                Due.dueAll("sorted", Make.sorted(x), rising);
                for (int t = 0; t < 4; t++) {
                    if (x.tape(t, 0) == 1) {
                        Due.dueAll("the last RUN", Make.on(x, t, 0), rising);
                    }
                }
            }
        }
    }

    private static void spreadAgain() {
        Due.sentence(10, "SPREAD: how many DUMMIES");
        RunTapes x = Make.spreadTwos(4, 4, 0);
        x.all();
        x.settle(3, 1);
        x.grow();
        Due.due("spread() again", x.spread(), 1);
        Due.dueAll("TAPE 0", Make.on(x, 0), -3, 2);
        Due.dueAll("TAPE 1", Make.on(x, 1), 0, 4);
        Due.dueAll("TAPE 2", Make.on(x, 2), 6);
        Due.dueAll("RUN 0", Make.on(x, 1, 0), 0, 1);
    }

    private static void polyphaseTo() {
        Due.sentence(0, "is one of them empty behind it, the PHASE is over: that (the least numbered) is TO");
        RunTapes x = Make.spreadTwos(17, 4, 0);
        // 7 6 4: TAPE 2 is empty behind four STEPS, 1 behind two, 0 behind one, then 1, 2, 3 at once
        int[] to = {3, 3, 3, 2, 2, 1, 0, 1};
        int[] phases = {0, 0, 0, 1, 1, 2, 3, 4};
        for (int i = 0; i < to.length; i++) {
            x.step();
            Due.due("TO behind STEP " + (i + 1), Make.to(x), to[i]);
            Due.due("PHASES", x.count(10), phases[i]);
        }
        Due.due("STAGE", x.count(7), 3);
        Due.sentence(0, "(Behind the last STEP, too, a PHASE is over.)");
        for (int way = 0; way <= 2; way++) {
            for (int runs = 2; runs <= 12; runs++) {
                RunTapes y = Make.spreadTwos(runs, 4, way);
                int before = 0;
                int last = 0;
                while (y.count(7) == 2) {
                    before = y.count(10);
                    y.step();
                    last = y.count(10);
                }
                Due.due("PHASES behind the last STEP, WAY " + way + ", RUNS " + runs, last, before + 1);
            }
        }
    }

    private static void cascadeTo() {
        Due.sentence(0, "if two or more of those are left to give; else the PASS is over: that is TO of the next one");
        RunTapes x = Make.spreadTwos(14, 4, 2);
        // 6 5 3: behind three STEPS TAPE 2 is empty, 0 and 1 give; behind two more 1, and 0 is left alone: the next PASS
        int[][] tapes = {{5, 4, 2, 1}, {4, 3, 1, 2}, {3, 2, 0, 3}, {2, 1, 1, 3}, {1, 0, 2, 3}, {0, 1, 1, 2}, {1, 1, 0, 1}, {0, 0, 1, 0}};
        int[] to = {3, 3, 2, 2, 1, 0, 2, 0};
        int[] phases = {0, 0, 1, 1, 2, 3, 4, 5};
        for (int i = 0; i < to.length; i++) {
            x.step();
            Due.dueAll("RUNS behind STEP " + (i + 1), Make.tapes(x, 0), tapes[i]);
            Due.due("TO", Make.to(x), to[i]);
            Due.due("PHASES", x.count(10), phases[i]);
        }
        Due.due("STAGE", x.count(7), 3);
        RunTapes three = Make.spreadTwos(5, 3, 2);
        // 3 2: with two TAPES that give each PASS has one PHASE
        int[] to3 = {2, 1, 0, 1};
        for (int i = 0; i < to3.length; i++) {
            three.step();
            Due.due("TO of 3 behind STEP " + (i + 1), Make.to(three), to3[i]);
        }
    }

    private static void balancedTo() {
        Due.sentence(0, "behind each STEP TO is the next TAPE of the half that writes, behind its last one the first");
        RunTapes x = Make.spreadTwos(10, 6, 1);
        int[] moved = {6, 6, 6, 2, 18, 2, 20};
        int[] to = {4, 5, 3, 0, 1, 3, 0};
        int[] phases = {0, 0, 0, 1, 1, 2, 3};
        for (int i = 0; i < to.length; i++) {
            Due.due("step() " + (i + 1), x.step(), moved[i]);
            Due.due("TO", Make.to(x), to[i]);
            Due.due("PHASES", x.count(10), phases[i]);
        }
        Due.due("STAGE", x.count(7), 3);
        Due.sentence(0, "are all that give empty, the PHASE is over: the halves change, TO is the first of the half that writes then");
        RunTapes y = Make.spreadTwos(10, 4, 1);
        int[][] tapes = {{4, 4, 1, 0}, {3, 3, 1, 1}, {2, 2, 2, 1}, {1, 1, 2, 2}, {0, 0, 3, 2}, {1, 0, 2, 1}, {1, 1, 1, 0}, {2, 1, 0, 0},
            {1, 0, 1, 0}, {0, 0, 1, 1}, {1, 0, 0, 0}};
        int[] to4 = {3, 2, 3, 2, 0, 1, 0, 2, 3, 0, 2};
        for (int i = 0; i < to4.length; i++) {
            y.step();
            Due.dueAll("RUNS behind STEP " + (i + 1), Make.tapes(y, 0), tapes[i]);
            Due.due("TO", Make.to(y), to4[i]);
        }
        Due.due("STAGE", y.count(7), 3);
        RunTapes five = Make.spreadTwos(7, 5, 1);
        int[] to5 = {3, 4, 2, 0, 1, 2, 0};
        for (int i = 0; i < to5.length; i++) {
            five.step();
            Due.due("TO of 5 behind STEP " + (i + 1), Make.to(five), to5[i]);
        }
    }

    private static void whichRunLeads() {
        Due.sentence(0, "with BACK falling if the RUN of the least numbered TAPE that is no DUMMY stands UP, rising else");
        RunTapes x = fourByTurns(4, 1);
        x.spread();
        // TAPE 0: DUMMY, RUN 1; TAPE 1: RUNS 2, 0; TAPE 2: RUN 3
        Due.due("a DUMMY is taken first", x.on(0, 0, -1), 0);
        Due.due("step()", x.step(), 5);
        Due.due("TURNED: RUN 3", x.count(11), 3);
        Due.due("it stands DOWN", x.on(3, 0, -2), 1);
        Due.dueAll("falling", Make.on(x, 3, 0), 5, 8, 9, 6, 7);
        Due.due("RUN 1 leads, DOWN", x.on(0, 0, -2), 1);
        Due.due("step()", x.step(), 10);
        Due.due("TURNED: RUN 0, too", x.count(11), 5);
        Due.due("it stands UP", x.on(2, 0, -2), 0);
        Due.sentence(0, "without BACK rising (those that stand DOWN are TURNED first: all their RECORDS count)");
        RunTapes y = fourByTurns(4, 0);
        y.spread();
        Due.due("step()", y.step(), 5);
        Due.due("TURNED: RUN 3", y.count(11), 3);
        Due.due("it stands UP", y.on(3, 0, -2), 0);
        Due.dueAll("rising", Make.on(y, 3, 0), 7, 9, 8, 0, 1);
        Due.due("step()", y.step(), 10);
        Due.due("TURNED: RUN 1, too", y.count(11), 6);
    }

    private static void theLastRunIsTurned() {
        Due.sentence(0, "does it stand DOWN, it is TURNED (its RECORDS count; it stands UP then)");
        RunTapes x = Make.twos(2, 3, 0);
        x.settle(4, 1);
        x.grow();
        x.spread();
        Due.due("TURNED so far", x.count(11), 0);
        Due.due("step()", x.step(), 4);
        Due.due("TURNED", x.count(11), 4);
        Due.due("it stands UP", x.on(2, 0, -2), 0);
        Due.dueAll("rising", Make.on(x, 2, 0), 2, 0, 3, 1);
        RunTapes one = Make.twos(1, 3, 0);
        one.settle(4, 1);
        one.grow();
        one.spread();
        Due.due("one RUN stands UP", one.on(0, 0, -2), 0);
        Due.due("it is not TURNED", one.count(11), 0);
        RunTapes three = Make.twos(3, 3, 0);
        three.settle(4, 1);
        three.grow();
        three.spread();
        // RUNS 2 and 1 fall: DOWN; then RUN 0 (UP) leads, the other one is TURNED, and at the end all
        three.step();
        Due.due("TURNED", three.count(11), 0);
        three.step();
        Due.due("TURNED", three.count(11), 4 + 6);
        RunTapes turns = Make.tell(Make.with(2, 6, 1), 10, 20, 5, 15, 14, 16, 7, 3, 9, 8);
        turns.settle(5, 1);
        turns.settle(4, 1);
        turns.grow();
        turns.spread();
        // TAPE 0: RUN 3 (DOWN) leads, RUN 2 is TURNED: UP; RUN 0 alone: DOWN; that is TURNED, all falls, on TAPE 0
        turns.step();
        Due.due("TURNED", turns.count(11), 2);
        turns.step();
        Due.due("TURNED", turns.count(11), 2);
        turns.step();
        Due.due("TURNED", turns.count(11), 2 + 2 + 10);
        Due.due("on TAPE 0 it stands UP", turns.on(0, 0, -2), 0);
        Due.dueAll("rising", Make.on(turns, 0, 0), 7, 2, 6, 9, 8, 0, 4, 3, 5, 1);
    }

    // ---- promise 14

    private static void recordsOfEachStage() {
        Due.sentence(14, "1: in which RUN it GREW (NONE ahead of that)");
        for (int stage = 0; stage <= 3; stage++) {
            RunTapes x = inStage(stage);
            for (int k = 0; k < 6; k++) {
                Due.due("record(" + k + ", 1) in STAGE " + stage, x.record(k, 1), stage == 0 ? -1 : k / 2);
            }
            x.settle(0, 3);
            Due.due("record(0, 1) behind settle", x.record(0, 1), -1);
        }
        Due.sentence(14, "NONE without these.");
        for (int stage = 0; stage <= 3; stage++) {
            RunTapes x = inStage(stage);
            int[] wrongK = {-1, -2, 6, 7, 299, 300, LOW, HIGH};
            for (int k : wrongK) {
                Due.due("record(" + k + ", 0)", x.record(k, 0), -1);
                Due.due("record(" + k + ", 1)", x.record(k, 1), -1);
            }
            int[] wrongWhat = {-1, -2, 2, 3, LOW, HIGH};
            for (int what : wrongWhat) {
                Due.due("record(0, " + what + ")", x.record(0, what), -1);
                Due.due("record(5, " + what + ")", x.record(5, what), -1);
            }
            Due.due("record(0, 0)", x.record(0, 0), 149);
            Due.due("record(5, 0)", x.record(5, 0), 253);
        }
        RunTapes full = Make.full();
        Due.due("record(299, 0) is there", full.record(299, 0) < 0 ? 1 : 0, 0);
        Due.due("record(300, 0)", full.record(300, 0), -1);
    }

    // ---- promise 15

    private static void runsAsTheyGrew() {
        Due.sentence(15, "what NONE: how many RECORDS, -2: 1 if it falls, else 0, i (0 on): which RECORD stands i-th; -3: there are not so many.");
        for (int stage = 1; stage <= 3; stage++) {
            RunTapes x = inStage(stage);
            for (int k = 0; k < 3; k++) {
                Due.due("run(" + k + ", -1)", x.run(k, -1), 2);
                Due.due("run(" + k + ", -2)", x.run(k, -2), 0);
                Due.due("run(" + k + ", 0)", x.run(k, 0), 2 * k);
                Due.due("run(" + k + ", 1)", x.run(k, 1), 2 * k + 1);
                Due.due("run(" + k + ", 2)", x.run(k, 2), -3);
                Due.due("run(" + k + ", 3)", x.run(k, 3), -3);
                Due.due("run(" + k + ", highest)", x.run(k, HIGH), -3);
            }
        }
        RunTapes full = new RunTapes();
        full.drawn(100, 1);
        full.drawn(100, 1);
        full.drawn(100, 1);
        full.grow();
        Due.due("run(0, -1) of 300", full.run(0, -1), 300);
        Due.due("run(0, 299)", full.run(0, 299), 299);
        Due.due("run(0, 300)", full.run(0, 300), -3);
        RunTapes turns = fourByTurns(4, 0);
        Due.due("run(1, -2)", turns.run(1, -2), 1);
        Due.due("run(1, 2)", turns.run(1, 2), 2);
        Due.due("run(1, 3)", turns.run(1, 3), -3);
    }

    private static void runsThatAreNot() {
        Due.sentence(15, "NONE without it, or what below -2.");
        for (int stage = 0; stage <= 3; stage++) {
            RunTapes x = inStage(stage);
            int[] wrongK = {-1, -2, 3, 4, 150, LOW, HIGH};
            int[] whats = {-3, -2, -1, 0, 1, 2, 3, LOW, HIGH};
            for (int what : whats) {
                for (int k : wrongK) {
                    Due.due("run(" + k + ", " + what + ")", x.run(k, what), -1);
                }
                if (stage == 0 || what < -2) {
                    Due.due("run(0, " + what + ") in STAGE " + stage, x.run(0, what), -1);
                    Due.due("run(2, " + what + ") in STAGE " + stage, x.run(2, what), -1);
                }
            }
        }
        RunTapes most = Make.grownTwos(150, 4, 0);
        Due.due("run(149, -1)", most.run(149, -1), 2);
        Due.due("run(150, -1)", most.run(150, -1), -1);
    }

    // ---- promise 16

    private static void tapesThatAre() {
        Due.sentence(16, "Of TAPE t what 0: how many RUNS (DUMMIES, too), 1: DUMMIES, 2: RECORDS, 3: whether it is TO (1, 0).");
        RunTapes x = Make.spreadTwos(7, 6, 2);
        int[][] due = {{5, 4, 3, 2, 1, 0}, {2, 2, 2, 1, 1, 0}, {6, 4, 2, 2, 0, 0}, {0, 0, 0, 0, 0, 1}};
        for (int what = 0; what < 4; what++) {
            Due.dueAll("tape(.., " + what + ")", Make.tapes(x, what), due[what]);
        }
        x.all();
        // 5 4 3 2 1: TO is 4, 3, 2, then (with TAPE 0 left alone) 1, and behind the last STEP 0
        int[][] merged = {{0, 1, 0, 0, 0, 0}, {0, 0, 0, 0, 0, 0}, {0, 14, 0, 0, 0, 0}, {1, 0, 0, 0, 0, 0}};
        for (int what = 0; what < 4; what++) {
            Due.dueAll("tape(.., " + what + ") when MERGED", Make.tapes(x, what), merged[what]);
        }
    }

    private static void tapesThatAreNot() {
        Due.sentence(16, "NONE without these, or if RUNS are not SPREAD.");
        for (int tapes = 3; tapes <= 6; tapes++) {
            RunTapes x = Make.spreadTwos(3, tapes, 0);
            for (int what = 0; what < 4; what++) {
                Due.due("tape(-1, " + what + ")", x.tape(-1, what), -1);
                Due.due("tape(" + tapes + ", " + what + ")", x.tape(tapes, what), -1);
                Due.due("tape(lowest)", x.tape(LOW, what), -1);
                Due.due("tape(highest)", x.tape(HIGH, what), -1);
                Due.due("tape(" + (tapes - 1) + ", " + what + ")", x.tape(tapes - 1, what), what == 3 ? 1 : 0);
            }
            int[] wrongWhat = {-1, -2, 4, 5, LOW, HIGH};
            for (int what : wrongWhat) {
                Due.due("tape(0, " + what + ")", x.tape(0, what), -1);
            }
        }
        for (int stage = 0; stage <= 3; stage++) {
            RunTapes x = inStage(stage);
            for (int what = 0; what < 4; what++) {
                Due.due("tape(0, " + what + ") in STAGE " + stage, Math.min(x.tape(0, what), 0), stage < 2 ? -1 : 0);
            }
        }
        Due.due("tape(0, 0) of a new object", new RunTapes().tape(0, 0), -1);
    }

    // ---- promise 17

    private static void runsOnTapes() {
        Due.sentence(17, "what NONE: how many RECORDS (0: a DUMMY), -2: 1 if it stands DOWN, else 0, i (0 on): which RECORD stands i-th (as it was written); -3: there are not so many.");
        RunTapes x = Make.spreadTwos(4, 4, 0);
        Due.due("a DUMMY's RECORDS", x.on(0, 0, -1), 0);
        Due.due("a DUMMY stands UP", x.on(0, 0, -2), 0);
        Due.due("a DUMMY's first", x.on(0, 0, 0), -3);
        Due.due("a DUMMY's highest", x.on(0, 0, HIGH), -3);
        Due.due("on(0, 1, -1)", x.on(0, 1, -1), 2);
        Due.due("on(0, 1, -2)", x.on(0, 1, -2), 0);
        Due.due("on(0, 1, 0)", x.on(0, 1, 0), 2);
        Due.due("on(0, 1, 1)", x.on(0, 1, 1), 3);
        Due.due("on(0, 1, 2)", x.on(0, 1, 2), -3);
        Due.due("on(0, 1, highest)", x.on(0, 1, HIGH), -3);
        RunTapes turns = fourByTurns(4, 0);
        turns.spread();
        Due.due("RUN 3 stands DOWN", turns.on(2, 0, -2), 1);
        Due.dueAll("as it was written", Make.on(turns, 2, 0), 8, 9, 7);
        RunTapes full = new RunTapes();
        full.drawn(100, 1);
        full.drawn(100, 1);
        full.drawn(100, 1);
        full.grow();
        full.spread();
        Due.due("on(0, 0, 299)", full.on(0, 0, 299), 299);
        Due.due("on(0, 0, 300)", full.on(0, 0, 300), -3);
    }

    private static void runsThatAreNotOnTapes() {
        Due.sentence(17, "NONE without these (what below -2, too), or if RUNS are not SPREAD.");
        RunTapes x = Make.spreadTwos(4, 4, 0);
        int[] whats = {-3, -2, -1, 0, 1, 2, LOW, HIGH};
        for (int what : whats) {
            Due.due("on(-1, 0, " + what + ")", x.on(-1, 0, what), -1);
            Due.due("on(4, 0, " + what + ")", x.on(4, 0, what), -1);
            Due.due("on(lowest, 0, " + what + ")", x.on(LOW, 0, what), -1);
            Due.due("on(highest, 0, " + what + ")", x.on(HIGH, 0, what), -1);
            Due.due("on(0, -1, " + what + ")", x.on(0, -1, what), -1);
            Due.due("on(0, 2, " + what + ")", x.on(0, 2, what), -1);
            Due.due("on(2, 1, " + what + ")", x.on(2, 1, what), -1);
            Due.due("on(3, 0, " + what + ") of an empty TAPE", x.on(3, 0, what), -1);
            Due.due("on(0, lowest, " + what + ")", x.on(0, LOW, what), -1);
            Due.due("on(0, highest, " + what + ")", x.on(0, HIGH, what), -1);
        }
        int[] wrongWhat = {-3, -4, LOW};
        for (int what : wrongWhat) {
            Due.due("on(0, 0, " + what + ")", x.on(0, 0, what), -1);
            Due.due("on(0, 1, " + what + ")", x.on(0, 1, what), -1);
        }
        for (int stage = 0; stage <= 3; stage++) {
            RunTapes y = inStage(stage);
            int t = stage == 3 ? 1 : 0;
            for (int what = -2; what <= 1; what++) {
                Due.due("on in STAGE " + stage, Math.min(0, y.on(t, 0, what)), stage < 2 ? -1 : 0);
            }
        }
    }

    // ---- promise 18

    private static void sortedWhenMerged() {
        Due.sentence(18, "-2: it is not yet.");
        for (int stage = 0; stage <= 3; stage++) {
            RunTapes x = inStage(stage);
            int[] rising = {4, 2, 0, 5, 3, 1};
            for (int k = 0; k < 6; k++) {
                Due.due("sorted(" + k + ") in STAGE " + stage, x.sorted(k), stage < 3 ? -2 : rising[k]);
            }
        }
        Due.sentence(18, "NONE without it.");
        for (int stage = 0; stage <= 3; stage++) {
            RunTapes x = inStage(stage);
            int[] wrong = {-1, -2, 6, 7, 300, LOW, HIGH};
            for (int k : wrong) {
                Due.due("sorted(" + k + ") in STAGE " + stage, x.sorted(k), -1);
            }
        }
        Due.due("sorted(0) of a new object", new RunTapes().sorted(0), -1);
        Due.sentence(0, "of like KEYS if it was told ahead");
        RunTapes like = Make.tell(Make.with(2, 3, 0), 9, 8, 9, 8, 7, 9, 8, 7);
        like.grow();
        like.spread();
        like.all();
        Due.dueAll("like KEYS", Make.sorted(like), 4, 7, 1, 3, 6, 0, 2, 5);
    }

    public static void main(String[] args) {
        asManyAsTheRoomHasPlaceFor();
        theNextRecordIsNotLess();
        theNextRunBegins();
        byTurnsTheNextRecordIsLess();
        growOnce();
        theLeastLevel();
        evenDummies();
        frontDummies();
        theMostPlacesLeft();
        dummiesAheadOfRuns();
        halfOfTheTapes();
        toAtFirst();
        spreadOnce();
        mergedAtOnce();
        stepPhaseAllAheadOfSpread();
        stepPhaseAllWhenMerged();
        aStepMoves();
        phaseGoesToItsEnd();
        allGoesToTheEnd();
        mergedRunsHaveAll();
        spreadAgain();
        polyphaseTo();
        cascadeTo();
        balancedTo();
        whichRunLeads();
        theLastRunIsTurned();
        recordsOfEachStage();
        runsAsTheyGrew();
        runsThatAreNot();
        tapesThatAre();
        tapesThatAreNot();
        runsOnTapes();
        runsThatAreNotOnTapes();
        sortedWhenMerged();
        Due.finish();
    }
}
