/** The clauses of the Terms (and openings of promises) that name no boundary, each worked out by hand. */
public final class TermsTest {
    private TermsTest() {
    }

    private static RunTapes told(int room, int growth, int... keys) {
        RunTapes x = Make.with(room, 4, 0);
        x.settle(5, growth);
        return Make.tell(x, keys);
    }

    private static RunTapes grown(int room, int growth, int... keys) {
        RunTapes x = told(room, growth, keys);
        x.grow();
        return x;
    }

    /** RUN 0 is of RECORDS 0 1 (1 9), RUN 1 falls: 3 4 5 2 (8 7 3 0). */
    private static RunTapes upAndDown(int back) {
        RunTapes x = told(2, 1, 1, 9, 0, 8, 7, 3);
        x.settle(4, back);
        x.grow();
        return x;
    }

    private static void dueRuns(String what, RunTapes x, int... want) {
        Due.dueAll(what, Make.tapes(x, 0), want);
    }

    // ---- RECORDS, STAGE, GROWN

    private static void lessAndStage() {
        Due.sentence(0, "One is LESS than another one, if its KEY is less");
        RunTapes x = grown(5, 0, 9, 3, 255, 5, 0);
        Due.dueAll("the RUN", Make.run(x, 0), 4, 1, 3, 0, 2);
        x.spread();
        Due.dueAll("sorted", Make.sorted(x), 4, 1, 3, 0, 2);
        Due.sentence(0, "STAGE 0: RECORDS are told; 1: RUNS are GROWN; 2: they are SPREAD");
        RunTapes y = new RunTapes();
        Due.due("of a new object", y.count(7), 0);
        y = Make.twos(3, 4, 0);
        Due.due("RECORDS are told", y.count(7), 0);
        y.grow();
        Due.due("GROWN", y.count(7), 1);
        y.spread();
        Due.due("SPREAD", y.count(7), 2);
        y.all();
        Due.due("MERGED", y.count(7), 3);
    }

    private static void growing() {
        Due.sentence(0, "Again and again: of those in it that are of this RUN the one that is LESS than the others goes out, it is the next one of the RUN");
        // room 5 2 8: 2 out, 6 in; 5 out, 1 waits; 6 out, 7 in; 7 out, 3 waits; 8 out
        RunTapes x = grown(3, 0, 5, 2, 8, 6, 1, 7, 3);
        Due.due("RUNS", x.count(1), 2);
        Due.dueAll("RUN 0", Make.run(x, 0), 1, 0, 3, 5, 2);
        Due.dueAll("RUN 1", Make.run(x, 1), 4, 6);
        Due.sentence(0, "of those that are of this RUN the one goes out than which the others are LESS");
        RunTapes y = upAndDown(0);
        Due.due("RUNS", y.count(1), 2);
        Due.dueAll("RUN 0 rises", Make.run(y, 0), 0, 1);
        Due.dueAll("RUN 1 falls", Make.run(y, 1), 3, 4, 5, 2);
        // 3 and 4 go out, both 2 wait for RUN 1: of like ones the later goes out first
        RunTapes like = grown(2, 1, 3, 4, 2, 2);
        Due.dueAll("of like KEYS", Make.run(like, 1), 3, 2);
    }

    // ---- PERFECT, SPREAD

    private static final int[][] POLYPHASE_OF_3 = {{1, 0, 0}, {1, 1, 1}, {2, 2, 1}, {4, 3, 2}, {7, 6, 4}, {13, 11, 7},
        {24, 20, 13}, {44, 37, 24}, {81, 68, 44}};
    private static final int[][] CASCADE_OF_3 = {{1, 0, 0}, {1, 1, 1}, {3, 2, 1}, {6, 5, 3}, {14, 11, 6}, {31, 25, 14},
        {70, 56, 31}, {157, 126, 70}, {353, 283, 157}};

    private static int[] level(RunTapes x, int level) {
        int[] row = new int[x.count(3) - 1];
        for (int t = 0; t < row.length; t++) {
            row[t] = x.perfect(level, t);
        }
        return row;
    }

    private static int sum(int[] row, int first, int behind) {
        int sum = 0;
        for (int i = first; i < behind; i++) {
            sum += row[i];
        }
        return sum;
    }

    private static void perfectNumbers() {
        Due.sentence(0, "PERFECT numbers of a LEVEL, of k (TAPES less 1)");
        for (int tapes = 3; tapes <= 6; tapes++) {
            RunTapes x = Make.with(4, tapes, 0);
            Due.due("LEVEL 1 of " + tapes, x.perfect(1, -1), tapes - 1);
            Due.due("the last number", x.perfect(1, tapes - 2), 1);
            Due.due("no more of them", x.perfect(1, tapes - 1), -1);
        }
        Due.sentence(0, "Of those of a LEVEL, a1 to ak, the next LEVEL is by POLYPHASE: a1 + a2, a1 + a3, .., a1 + ak, a1");
        for (int level = 0; level <= 8; level++) {
            Due.dueAll("LEVEL " + level, level(Make.with(4, 4, 0), level), POLYPHASE_OF_3[level]);
        }
        for (int tapes = 3; tapes <= 6; tapes++) {
            RunTapes x = Make.with(4, tapes, 0);
            for (int level = 1; level <= 8; level++) {
                int[] below = level(x, level - 1);
                for (int t = 0; t < tapes - 1; t++) {
                    Due.due("perfect(" + level + ", " + t + ")", x.perfect(level, t), below[0] + sum(below, t + 1, Math.min(t + 2, tapes - 1)));
                }
            }
        }
        Due.sentence(0, "by CASCADE: a1 + .. + ak, a1 + .. + a(k-1), .., a1 + a2, a1.");
        for (int level = 0; level <= 8; level++) {
            Due.dueAll("LEVEL " + level, level(Make.with(4, 4, 2), level), CASCADE_OF_3[level]);
        }
        for (int tapes = 3; tapes <= 6; tapes++) {
            RunTapes x = Make.with(4, tapes, 2);
            for (int level = 1; level <= 8; level++) {
                int[] below = level(x, level - 1);
                for (int t = 0; t < tapes - 1; t++) {
                    Due.due("perfect(" + level + ", " + t + ")", x.perfect(level, t), sum(below, 0, tapes - 1 - t));
                }
            }
        }
    }

    private static void spreading() {
        Due.sentence(0, "SPREAD by POLYPHASE, CASCADE: the LEVEL is the least");
        Due.due("LEVEL of 9", Make.grownTwos(9, 4, 0).plan(5), 3);
        Due.due("LEVEL of 14", Make.grownTwos(14, 4, 2).plan(5), 3);
        Due.sentence(0, "TAPES 0 to k - 1 get so many, the last TAPE none.");
        dueRuns("POLYPHASE", Make.spreadTwos(9, 4, 0), 4, 3, 2, 0);
        dueRuns("CASCADE", Make.spreadTwos(14, 4, 2), 6, 5, 3, 0);
        dueRuns("POLYPHASE, 3 TAPES", Make.spreadTwos(5, 3, 0), 3, 2, 0);
        Due.sentence(0, "What is beyond RUNS are DUMMIES (RUNS without RECORDS)");
        RunTapes x = Make.spreadTwos(7, 4, 0);
        dueRuns("RUNS and DUMMIES", x, 4, 3, 2, 0);
        Due.dueAll("DUMMIES", Make.tapes(x, 1), 1, 1, 0, 0);
        Due.dueAll("RECORDS", Make.tapes(x, 2), 6, 4, 4, 0);
        Due.due("RECORDS of a DUMMY", x.on(1, 0, -1), 0);
        Due.sentence(0, "The RUNS, as they GREW, come one by one to the TAPE");
        // places 4 3 2: RUNS 0 1 to TAPE 0, 2 to TAPE 1, then by turns
        RunTapes y = Make.spreadTwos(9, 4, 0);
        Due.dueAll("TAPE 0", Make.on(y, 0), 0, 2, 6, 12);
        Due.dueAll("TAPE 1", Make.on(y, 1), 4, 8, 14);
        Due.dueAll("TAPE 2", Make.on(y, 2), 10, 16);
    }

    // ---- how RUNS stand and are given

    private static void standing() {
        Due.sentence(0, "RUNS stand UP (rising as written) at first, those that fall DOWN.");
        RunTapes x = upAndDown(0);
        x.spread();
        Due.due("RUN 0 stands UP", x.on(1, 0, -2), 0);
        Due.dueAll("RUN 0", Make.on(x, 1, 0), 0, 1);
        Due.due("RUN 1 stands DOWN", x.on(2, 0, -2), 1);
        Due.dueAll("RUN 1", Make.on(x, 2, 0), 3, 4, 5, 2);
        Due.sentence(0, "Without BACK a TAPE gives its RUNS as they were written, the first first, each from its first RECORD on.");
        RunTapes y = Make.spreadTwos(9, 4, 0);
        y.step();
        Due.dueAll("TAPE 0 gave RUN 0", Make.on(y, 0), 2, 6, 12);
        Due.dueAll("TAPE 1 gave RUN 2", Make.on(y, 1), 8, 14);
        Due.dueAll("TAPE 2 gave RUN 5", Make.on(y, 2), 16);
        y.step();
        // RUNS 0 2 5, then 1 4 8: the KEYS of a RUN fall from RUN to RUN
        Due.dueAll("what was written first", Make.on(y, 3, 0), 10, 4, 0, 11, 5, 1);
        Due.dueAll("what was written last", Make.on(y, 3, 1), 16, 8, 2, 17, 9, 3);
        Due.sentence(0, "With BACK a TAPE gives the RUN first that was written last");
        RunTapes z = Make.twos(9, 4, 0);
        z.settle(4, 1);
        z.grow();
        z.spread();
        Due.dueAll("TAPE 0", Make.on(z, 0), 12, 6, 2, 0);
        Due.dueAll("TAPE 1", Make.on(z, 1), 14, 8, 4);
        Due.dueAll("TAPE 2", Make.on(z, 2), 16, 10);
        Due.sentence(0, "each from its last RECORD on: one that stands UP comes falling.");
        z.step();
        z.step();
        // RUNS 6 7 8 came falling first, then 3 4 5
        Due.dueAll("what was written last", Make.on(z, 3, 0), 7, 9, 11, 6, 8, 10);
        Due.dueAll("what was written first", Make.on(z, 3, 1), 13, 15, 17, 12, 14, 16);
        Due.due("nothing was TURNED", z.count(11), 0);
        Due.sentence(0, "What is written rising stands UP, falling DOWN.");
        Due.due("written rising", y.on(3, 0, -2), 0);
        Due.due("written falling", z.on(3, 0, -2), 1);
        // TAPE 0 leads: RUN 1 stands UP, what is on TAPE 3 DOWN
        Due.due("a STEP", z.step(), 2 + 2 + 6);
        Due.due("written falling again", z.on(2, 0, -2), 1);
        Due.due("six were TURNED", z.count(11), 6);
    }

    private static void turning() {
        Due.sentence(0, "the others that stand otherwise are TURNED first (likewise).");
        RunTapes x = upAndDown(1);
        x.spread();
        // a DUMMY of TAPE 0, RUN 0 leads and stands UP: the four of RUN 1 are TURNED; at last all six
        Due.due("a STEP", x.step(), 6);
        Due.due("TURNED", x.count(11), 4 + 6);
        RunTapes y = upAndDown(0);
        y.spread();
        Due.due("a STEP", y.step(), 6);
        Due.due("TURNED without BACK", y.count(11), 4);
        Due.sentence(0, "MOVES: RECORDS that are written so.");
        Due.due("TURNED ones are no MOVES", x.count(8), 6);
        Due.due("nor without BACK", y.count(8), 6);
        RunTapes z = Make.spreadTwos(9, 4, 0);
        z.step();
        z.step();
        Due.due("six of each STEP", z.count(8), 12);
    }

    // ---- STEPS of the three ways

    private static void dueStep(RunTapes x, int moved, int to, int phases, int... runs) {
        Due.due("a STEP", x.step(), moved);
        dueRuns("RUNS behind it", x, runs);
        Due.due("TO", Make.to(x), to);
        Due.due("PHASES", x.count(10), phases);
    }

    private static void polyphase() {
        Due.sentence(0, "A STEP takes the next RUN of each TAPE that gives");
        Due.sentence(0, "By POLYPHASE all TAPES but TO give");
        RunTapes x = Make.spreadTwos(9, 4, 0);
        dueStep(x, 6, 3, 0, 3, 2, 1, 1);
        dueStep(x, 6, 2, 1, 2, 1, 0, 2);
        dueStep(x, 2 + 2 + 6, 1, 2, 1, 0, 1, 1);
        dueStep(x, 18, 0, 3, 0, 1, 0, 0);
        Due.sentence(0, "MERGED, if there is one RUN alone on all TAPES");
        Due.due("STAGE", x.count(7), 3);
        RunTapes two = Make.spreadTwos(3, 3, 0);
        two.step();
        Due.due("two RUNS on two TAPES", two.count(7), 2);
        two.step();
        Due.due("one", two.count(7), 3);
    }

    private static void cascade() {
        Due.sentence(0, "By CASCADE: in a PASS those TAPES give that were not empty as it began, were not TO in it, and are not empty: two at least: is one of them empty behind a STEP, the PHASE is over: that (the least numbered) is TO");
        RunTapes x = Make.spreadTwos(14, 4, 2);
        dueStep(x, 6, 3, 0, 5, 4, 2, 1);
        dueStep(x, 6, 3, 0, 4, 3, 1, 2);
        dueStep(x, 6, 2, 1, 3, 2, 0, 3);
        dueStep(x, 4, 2, 1, 2, 1, 1, 3);
        // TAPE 3 was TO in this PASS: TAPE 0 alone is left to give
        dueStep(x, 4, 1, 2, 1, 0, 2, 3);
        dueStep(x, 2 + 4 + 6, 0, 3, 0, 1, 1, 2);
        dueStep(x, 4 + 6, 2, 4, 1, 1, 0, 1);
        dueStep(x, 28, 0, 5, 0, 0, 1, 0);
        Due.due("STAGE", x.count(7), 3);
    }

    private static void balanced() {
        Due.sentence(0, "By BALANCED those of one half give that are not empty (TAPES 0 to h - 1 at first, the others write; then turned about)");
        RunTapes x = Make.spreadTwos(7, 5, 1);
        dueRuns("SPREAD", x, 4, 3, 0, 0, 0);
        dueStep(x, 4, 3, 0, 3, 2, 1, 0, 0);
        dueStep(x, 4, 4, 0, 2, 1, 1, 1, 0);
        dueStep(x, 4, 2, 0, 1, 0, 1, 1, 1);
        dueStep(x, 2, 0, 1, 0, 0, 2, 1, 1);
        dueStep(x, 12, 1, 1, 1, 0, 1, 0, 0);
        dueStep(x, 2, 2, 2, 1, 1, 0, 0, 0);
        dueStep(x, 14, 0, 3, 0, 0, 1, 0, 0);
    }

    // ---- on paper

    private static void papers() {
        Due.sentence(0, "STANDS of it: how many RUNS (DUMMIES, too) each TAPE has, by numbers: of SPREAD and behind each STEP, unlike ones.");
        Due.due("POLYPHASE: 4320 3211 2102 1011 0100", Make.grownTwos(9, 4, 0).stands(), 5);
        Due.due("with two DUMMIES", Make.grownTwos(7, 4, 0).stands(), 5);
        Due.due("CASCADE", Make.grownTwos(14, 4, 2).stands(), 9);
        Due.due("BALANCED: 2100 1010 0011 1000", Make.grownTwos(3, 4, 1).stands(), 4);
        Due.sentence(0, "LEAST of k: all RUNS as they GREW, k at most");
        RunTapes x = Make.spreadTwos(4, 4, 0);
        Due.due("least(2)", x.least(2), 16);
        x.all();
        Due.due("of RUNS as they GREW, MERGED or not", x.least(2), 16);
        Due.sentence(24, "what MOVES a PLAN would come to, were there as many RUNS as PERFECT tells of it, all together, each of one RECORD that rises (TAPES, WAY, BACK as they are).");
        // 2 1 0, 1 0 1, 0 1 0: two, then all three; 3 2 0, 1 0 2, 0 1 1, 1 0 0: twice two, three, five
        RunTapes three = Make.with(4, 3, 0);
        int[] due = {0, 2, 5, 12};
        for (int level = 0; level < due.length; level++) {
            Due.due("units(" + level + ") of 3 TAPES", three.units(level), due[level]);
        }
        // 3 2 1: three; two; all six
        Due.due("units(2) by CASCADE", Make.with(4, 4, 2).units(2), 3 + 2 + 6);
        RunTapes told = Make.grownTwos(9, 4, 0);
        told.settle(4, 1);
        Due.due("with BACK, RECORDS told or not", told.units(3), 3 + 3 + 5 + 9);
    }

    private static void forecasts() {
        Due.sentence(0, "FORECAST of B: of each RUN that the next STEP takes its RECORDS");
        Due.sentence(0, "are BLOCKS of B (the last one may have fewer); at first one BLOCK of each is there; when the last RECORD of one has been written");
        // RUNS (5 2 8 6 1 7 3 of ROOM 3): 2 5 6 7 8 on TAPE 1, 1 3 on TAPE 2, a DUMMY on TAPE 0
        RunTapes x = grown(3, 0, 5, 2, 8, 6, 1, 7, 3);
        x.spread();
        // written: 1 2 3 5 6 7 8, of TAPES 2 1 2 1 1 1 1
        Due.dueAll("BLOCKS of 1", Make.forecast(x, 1), 2, 1, 1, 1, 1);
        Due.dueAll("BLOCKS of 2: 2 5, 6 7, 8", Make.forecast(x, 2), 1, 1);
        Due.dueAll("BLOCKS of 3: 2 5 6, 7 8", Make.forecast(x, 3), 1);
        Due.dueAll("BLOCKS of 5", Make.forecast(x, 5));
        Due.sentence(0, "of which TAPES they are, in the order in which they are fetched.");
        // 147 148 149 (RUNS 2 1 0), then 253 254 255
        Due.dueAll("three RUNS of two", Make.forecast(Make.spreadTwos(3, 4, 0), 1), 2, 1, 0);
        RunTapes back = Make.twos(3, 4, 0);
        back.settle(4, 1);
        back.grow();
        back.spread();
        Due.dueAll("they come falling", Make.forecast(back, 1), 0, 1, 2);
    }

    // ---- openings of promises, constants

    private static void openings() {
        Due.sentence(0, "The constants: `NONE = -1`: None.");
        Due.due("NONE", RunTapes.NONE, -1);
        RunTapes x = grown(3, 0, 5, 2, 8, 6, 1, 7, 3);
        Due.sentence(14, "Of the k-th RECORD (0 the first told) what 0: its KEY");
        Due.dueAll("KEYS", Make.keys(x), 5, 2, 8, 6, 1, 7, 3);
        Due.sentence(15, "Of the k-th RUN (0 the first) as it GREW");
        Due.due("RUN 0", x.run(0, 0), 1);
        Due.due("RUN 1", x.run(1, 0), 4);
        Due.sentence(23, "DEPTH of the k-th RUN (0 the first) as it GREW");
        // RUNS 0 1 on TAPE 0, 2 on TAPE 1: 0 and 2 are MERGED, then 1 with them
        RunTapes three = Make.grownTwos(3, 3, 0);
        int[] depth = {2, 1, 2};
        for (int k = 0; k < 3; k++) {
            Due.due("depth(" + k + ")", three.depth(k), depth[k]);
        }
        Due.sentence(28, "Of RECORDS as they were told what 0: INVERSIONS");
        // ahead of 2: 5; of 6: 8; of 1: 5 2 8 6; of 7: 8; of 3: 5 8 6 7
        Due.due("about(0)", x.about(0), 1 + 1 + 4 + 1 + 4);
        x.spread();
        Due.sentence(17, "Of the k-th RUN on TAPE t (0 that which is taken first)");
        RunTapes y = Make.spreadTwos(9, 4, 0);
        Due.due("taken first", y.on(1, 0, 0), 4);
        Due.due("taken last", y.on(1, 2, 0), 14);
        x.all();
        Due.sentence(18, "The k-th RECORD of all (0 the first) when all is MERGED, rising");
        Due.dueAll("sorted", Make.sorted(x), 4, 1, 6, 0, 3, 5, 2);
    }

    private static void counts() {
        Due.sentence(34, "What 0: RECORDS, 1: RUNS");
        Due.sentence(34, "2: ROOM, 3: TAPES, 4: WAY, 5: DUMMIES, 6: BACK, 7: STAGE, 8: MOVES, 9: STEPS, 10: PHASES, 11: TURNED");
        Due.sentence(34, "12: ACTS that can be UNDONE, 13: x, 14: bytes of the TAPE, 15: GROWTH.");
        RunTapes x = told(2, 1, 1, 9, 0, 8, 7, 3);
        x.settle(1, 5);
        x.settle(3, 1);
        x.settle(2, 2);
        x.grow();
        x.draws(77);
        x.feed(1, 2, 3, 4, 5);
        x.spread();
        x.step();
        // ACTS: ROOM, GROWTH, told, TAPES, DUMMIES, WAY, GROWN, SPREAD, a STEP: eight of nine
        Due.dueAll("counts", Make.counts(x), 6, 2, 2, 5, 2, 1, 0, 3, 6, 1, 1, 4, 8, 77, 20, 1);
    }

    public static void main(String[] args) {
        lessAndStage();
        growing();
        perfectNumbers();
        spreading();
        standing();
        turning();
        polyphase();
        cascade();
        balanced();
        papers();
        forecasts();
        openings();
        counts();
        Due.finish();
    }
}
