import java.util.function.IntPredicate;
import java.util.function.Supplier;
import java.util.function.ToIntFunction;

/**
 * Sentences that say "nothing happens" (or "none comes"): a call that is refused leaves the object like a twin that
 * was never asked, for every question, for all that can be UNDONE, for TAPE, SHELVES and all acts that may follow.
 */
public final class RefusedTest {
    private static final int LOW = Integer.MIN_VALUE;
    private static final int HIGH = Integer.MAX_VALUE;

    private static final int NEW = 0;
    private static final int TOLD = 1;
    private static final int GROWN = 2;
    private static final int SPREAD = 3;
    private static final int MERGED = 4;
    private static final int FULL = 5;
    private static final int THREE = 6;
    private static final int BACK = 7;
    private static final int MANY_ACTS = 8;
    private static final int CLEARED = 9;
    private static final int STATES = 10;
    private static final String[] NAMES = {"new", "told", "GROWN", "SPREAD", "MERGED", "full", "WAY 1 with 3 TAPES", "back",
        "many ACTS", "CLEARED"};

    /** BY TURNS, with BACK, four RUNS: five bytes on the TAPE, a SHELF that is KEPT, x 77, and four ACTS behind it. */
    private static RunTapes told() {
        RunTapes x = Make.tell(Make.with(2, 4, 0), 10, 20, 5, 15, 14, 16, 7, 3, 9, 8);
        x.keep(1);
        x.settle(5, 1);
        x.settle(4, 1);
        Make.feed(x, 200, 0, 255, 7, 7);
        x.draws(77);
        return x;
    }

    private static RunTapes merging(int stage) {
        RunTapes x = told();
        x.grow();
        if (stage > 1) {
            x.spread();
            x.step();
        }
        if (stage > 2) {
            x.all();
        }
        return x;
    }

    private static RunTapes full() {
        RunTapes x = Make.full();
        x.grow();
        for (int i = 0; i < 10; i++) {
            x.feed(i, i << 8, i << 16, i << 24, -i);
        }
        x.keep(0);
        return x;
    }

    private static RunTapes behindBack() {
        RunTapes x = merging(2);
        x.keep(0);
        x.all();
        x.back(0);
        return x;
    }

    private static RunTapes manyActs() {
        RunTapes x = merging(2);
        for (int i = 0; i < 9; i++) {
            x.settle(0, 3 + i);
        }
        x.grow();
        return x;
    }

    private static RunTapes cleared() {
        RunTapes x = merging(3);
        x.clear();
        x.end(0);
        return x;
    }

    private static RunTapes made(int state) {
        switch (state) {
            case NEW:
                return new RunTapes();
            case TOLD:
                return told();
            case GROWN:
                return merging(1);
            case SPREAD:
                return merging(2);
            case MERGED:
                return merging(3);
            case FULL:
                return full();
            case THREE:
                return Make.grownTwos(3, 3, 1);
            case BACK:
                return behindBack();
            case MANY_ACTS:
                return manyActs();
            default:
                return cleared();
        }
    }

    private static void refused(String call, int answer, IntPredicate where, ToIntFunction<RunTapes> ask) {
        for (int state = 0; state < STATES; state++) {
            if (!where.test(state)) {
                continue;
            }
            int from = state;
            String what = call + " when " + NAMES[state];
            Due.due(what, ask.applyAsInt(made(from)), answer);
            Supplier<RunTapes> asked = () -> {
                RunTapes x = made(from);
                ask.applyAsInt(x);
                return x;
            };
            Twins.same(what, asked, () -> made(from));
        }
    }

    private static boolean isIn(int state, int... states) {
        for (int one : states) {
            if (one == state) {
                return true;
            }
        }
        return false;
    }

    private static void telling() {
        Due.sentence(2, "NONE, and none comes, if it would have more than 200");
        refused("feed", -1, state -> state == FULL, x -> x.feed(1, 2, 3, 4, 5));
        Due.sentence(3, "NONE, and nothing happens, if it has not so many, or n is below 0");
        refused("end(201)", -1, state -> true, x -> x.end(201));
        refused("end(highest)", -1, state -> true, x -> x.end(HIGH));
        refused("end(one more)", -1, state -> true, x -> x.end(x.count(14) + 1));
        refused("end(-1)", -1, state -> true, x -> x.end(-1));
        refused("end(lowest)", -1, state -> true, x -> x.end(LOW));
        Due.sentence(4, "NONE, and nothing happens (the TAPE stays): it has none, or there would be more than 300");
        refused("tell()", -1, state -> isIn(state, NEW, FULL, THREE, CLEARED), RunTapes::tell);
        Due.sentence(5, "NONE, and nothing happens, without these, or if there would be more than 300");
        int[][] wrong = {{0, 1}, {101, 1}, {1, 0}, {1, 257}, {-1, -1}, {HIGH, HIGH}, {LOW, LOW}};
        for (int[] one : wrong) {
            refused("drawn(" + one[0] + ", " + one[1] + ")", -1, state -> true, x -> x.drawn(one[0], one[1]));
        }
        refused("drawn(1, 1)", -1, state -> state == FULL, x -> x.drawn(1, 1));
        refused("drawn(100, 256)", -1, state -> state == FULL, x -> x.drawn(100, 256));
        Due.sentence(6, "NONE, and nothing happens, below 0");
        refused("draws(-1)", -1, state -> true, x -> x.draws(-1));
        refused("draws(lowest)", -1, state -> true, x -> x.draws(LOW));
    }

    private static void settling() {
        int[] lowest = {2, 3, 0, 0, 0, 0};
        int[] highest = {16, 6, 2, 1, 1, 1};
        int[] counted = {2, 3, 4, 5, 6, 15};
        Due.sentence(8, "-2, and nothing happens: it is so");
        for (int i = 0; i < 6; i++) {
            int what = i;
            refused("settle(" + i + ", as it is)", -2, state -> true, x -> x.settle(what, x.count(counted[what])));
        }
        Due.sentence(8, "NONE, and nothing happens, for others");
        for (int i = 0; i < 6; i++) {
            int what = i;
            refused("settle(" + i + ", below)", -1, state -> true, x -> x.settle(what, lowest[what] - 1));
            refused("settle(" + i + ", above)", -1, state -> true, x -> x.settle(what, highest[what] + 1));
        }
        refused("settle(-1, 0)", -1, state -> true, x -> x.settle(-1, 0));
        refused("settle(6, 0)", -1, state -> true, x -> x.settle(6, 0));
    }

    private static void merging() {
        Due.sentence(9, "-2, and nothing happens: they are");
        refused("grow()", -2, state -> !isIn(state, NEW, TOLD, CLEARED), RunTapes::grow);
        Due.sentence(9, "NONE, and nothing happens, without RECORDS");
        refused("grow()", -1, state -> isIn(state, NEW, CLEARED), RunTapes::grow);
        Due.sentence(10, "-2, and nothing happens: they are");
        refused("spread()", -2, state -> isIn(state, SPREAD, MERGED, BACK), RunTapes::spread);
        Due.sentence(10, "NONE, and nothing happens, if RUNS are not GROWN, or WAY is 1 with 3 TAPES");
        refused("spread()", -1, state -> isIn(state, NEW, TOLD, THREE, CLEARED), RunTapes::spread);
        IntPredicate ahead = state -> isIn(state, NEW, TOLD, GROWN, FULL, THREE, MANY_ACTS, CLEARED);
        Due.sentence(11, "-2, and nothing happens: all is MERGED");
        refused("step()", -2, state -> state == MERGED, RunTapes::step);
        Due.sentence(11, "NONE, and nothing happens, if RUNS are not SPREAD");
        refused("step()", -1, ahead, RunTapes::step);
        Due.sentence(12, "-2, and nothing happens: all is MERGED");
        refused("phase()", -2, state -> state == MERGED, RunTapes::phase);
        Due.sentence(12, "NONE, and nothing happens, if RUNS are not SPREAD");
        refused("phase()", -1, ahead, RunTapes::phase);
        Due.sentence(13, "-2, and nothing happens: all is");
        refused("all()", -2, state -> state == MERGED, RunTapes::all);
        Due.sentence(13, "NONE, and nothing happens, if RUNS are not SPREAD");
        refused("all()", -1, ahead, RunTapes::all);
    }

    private static void keeping() {
        Due.sentence(31, "NONE, and nothing happens, if none can");
        refused("undo()", -1, state -> isIn(state, NEW, BACK), RunTapes::undo);
        Due.sentence(32, "NONE, and nothing happens, without that SHELF");
        int[] wrong = {-1, 2, LOW, HIGH};
        for (int shelf : wrong) {
            refused("keep(" + shelf + ")", -1, state -> true, x -> x.keep(shelf));
        }
        Due.sentence(33, "NONE, and nothing happens, without that SHELF");
        for (int shelf : wrong) {
            refused("back(" + shelf + ")", -1, state -> true, x -> x.back(shelf));
        }
        Due.sentence(33, "-2, and nothing happens: nothing is");
        refused("back(0)", -2, state -> !isIn(state, FULL, BACK), x -> x.back(0));
        refused("back(1)", -2, state -> isIn(state, NEW, FULL, THREE), x -> x.back(1));
    }

    public static void main(String[] args) {
        telling();
        settling();
        merging();
        keeping();
        Due.finish();
    }
}
