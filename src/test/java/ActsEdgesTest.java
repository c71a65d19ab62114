import java.util.function.Supplier;
import java.util.function.ToIntFunction;

/** Boundaries of promises 31 to 34 and of the Terms of ACTS and SHELVES. Each sentence by itself. */
public final class ActsEdgesTest {
    private static final int LOW = Integer.MIN_VALUE;
    private static final int HIGH = Integer.MAX_VALUE;

    /** Three ACTS (ROOM, TAPES, RECORDS), behind others that were UNDONE, and as many as the STAGE: three RUNS of two RECORDS. */
    private static RunTapes inStage(int stage) {
        RunTapes x = Make.twos(3, 4, 2);
        x.undo();
        x.undo();
        x.undo();
        x.settle(0, 2);
        x.settle(1, 3);
        Make.tell(x, 149, 255, 148, 254, 147, 253);
        if (stage > 0) {
            x.grow();
        }
        if (stage > 1) {
            x.spread();
        }
        if (stage > 2) {
            x.all();
        }
        return x;
    }

    // ---- what is an ACT

    private static void isOneAct(String call, int stage, ToIntFunction<RunTapes> act) {
        Supplier<RunTapes> before = () -> inStage(stage);
        RunTapes x = before.get();
        int acts = x.count(12);
        act.applyAsInt(x);
        Due.due("ACTS behind " + call, x.count(12), acts + 1);
        Due.due("undo() of " + call, x.undo(), acts);
        Twins.same(call + " and undo() in STAGE " + stage, () -> {
            RunTapes y = before.get();
            act.applyAsInt(y);
            y.undo();
            return y;
        }, before);
    }

    private static void everyAct() {
        Due.sentence(0, "ACTS: RECORDS told, drawn, CLEARED, a SETTING told, GROWN, SPREAD, STEPS (of one call), each.");
        for (int stage = 0; stage <= 3; stage++) {
            isOneAct("tell()", stage, x -> {
                Make.feed(x, 9, 0, 255);
                return x.tell();
            });
            isOneAct("drawn(1, 1)", stage, x -> x.drawn(1, 1));
            isOneAct("drawn(100, 256)", stage, x -> x.drawn(100, 256));
            isOneAct("clear()", stage, RunTapes::clear);
            int[] values = {3, 6, 1, 1, 1, 1};
            for (int i = 0; i < 6; i++) {
                int what = i;
                isOneAct("settle(" + i + ")", stage, x -> x.settle(what, values[what]));
            }
        }
        isOneAct("grow()", 0, RunTapes::grow);
        isOneAct("spread()", 1, RunTapes::spread);
        isOneAct("step()", 2, RunTapes::step);
        isOneAct("phase()", 2, RunTapes::phase);
        isOneAct("all()", 2, RunTapes::all);
    }

    private static void clearOfNoneIsAnAct() {
        Due.sentence(7, "There are no RECORDS: how many there were.");
        RunTapes x = new RunTapes();
        x.clear();
        Due.due("ACTS", x.count(12), 1);
        Due.due("undo()", x.undo(), 0);
        Due.due("RECORDS", x.count(0), 0);
    }

    private static void noActs() {
        Due.sentence(0, "ACTS: RECORDS told, drawn, CLEARED, a SETTING told, GROWN, SPREAD, STEPS (of one call), each.");
        for (int stage = 0; stage <= 3; stage++) {
            RunTapes x = inStage(stage);
            int acts = x.count(12);
            x.feed(1, 2, 3, 4, 5);
            x.end(3);
            x.draws(5);
            x.keep(0);
            x.keep(1);
            Due.due("ACTS in STAGE " + stage, x.count(12), acts);
        }
    }

    private static void questionsChangeNothing() {
        Due.sentence(0, "A PLAN: what MOVES, STEPS, PHASES, TURNED come to from SPREAD to MERGED (on paper).");
        for (int i = 0; i <= 3; i++) {
            int stage = i;
            Twins.same("questions in STAGE " + stage, () -> asked(inStage(stage)), () -> inStage(stage));
        }
    }

    private static RunTapes asked(RunTapes x) {
        for (int a = -1; a < 4; a++) {
            x.plan(a);
            x.planned(a, 4, 0);
            x.planned(2, 6, 1);
            x.least(a);
            x.depth(a);
            x.units(a);
            x.stands();
            x.sorted(a);
            x.keys(a);
            x.about(a);
            x.needs(a);
            x.forecast(a, -1);
            x.perfect(a, -1);
            x.key(a, 1);
            x.record(a, 1);
            x.run(a, 0);
            x.tape(a, 2);
            x.on(a, 0, 0);
            x.count(a);
        }
        return x;
    }

    // ---- promise 31

    private static void theLastEight() {
        Due.sentence(0, "The last 8 can be UNDONE, the last first");
        for (int acts = 0; acts <= 26; acts++) {
            RunTapes x = new RunTapes();
            for (int i = 1; i <= acts; i++) {
                x.drawn(i % 7 + 1, 9);
            }
            int can = Math.min(acts, 8);
            Due.due("ACTS of " + acts, x.count(12), can);
            for (int left = can - 1; left >= 0; left--) {
                int last = acts - (can - 1 - left);
                int records = x.count(0);
                Due.due("undo() of " + acts, x.undo(), left);
                Due.due("RECORDS", x.count(0), records - (last % 7 + 1));
                Due.due("ACTS", x.count(12), left);
            }
            int records = x.count(0);
            Due.due("undo() once more", x.undo(), -1);
            Due.due("RECORDS", x.count(0), records);
        }
    }

    private static void undoAndActAgain() {
        Due.sentence(31, "The last ACT is UNDONE: how many more can be");
        RunTapes x = new RunTapes();
        for (int i = 0; i < 12; i++) {
            x.drawn(1, 9);
        }
        // 12: three are UNDONE, five more come: the last eight of fourteen
        x.undo();
        x.undo();
        Due.due("the third undo()", x.undo(), 5);
        for (int i = 0; i < 5; i++) {
            x.drawn(2, 9);
        }
        Due.due("RECORDS", x.count(0), 19);
        int[] records = {17, 15, 13, 11, 9, 8, 7, 6};
        for (int i = 0; i < 8; i++) {
            Due.due("undo()", x.undo(), 7 - i);
            Due.due("RECORDS", x.count(0), records[i]);
        }
        Due.due("undo() once more", x.undo(), -1);
        x.drawn(1, 1);
        Due.due("undo() of one more", x.undo(), 0);
        Due.due("RECORDS", x.count(0), 6);
    }

    private static void undoOfNone() {
        Due.sentence(31, "NONE, and nothing happens, if none can");
        RunTapes x = new RunTapes();
        Due.due("undo() of a new object", x.undo(), -1);
        x.feed(1, 2, 3, 4, 5);
        x.draws(8);
        Due.due("undo() without ACTS", x.undo(), -1);
        Due.due("bytes", x.count(14), 20);
        Due.due("x", x.count(13), 8);
        x.drawn(1, 1);
        Due.due("undo() of one", x.undo(), 0);
        Due.due("undo() of none", x.undo(), -1);
        Due.due("undo() of none", x.undo(), -1);
    }

    private static void undoOfX() {
        Due.sentence(0, "all is as ahead of it (x, too)");
        RunTapes x = new RunTapes();
        x.draws(HIGH);
        x.drawn(100, 256);
        x.undo();
        Due.due("x behind drawn", x.count(13), HIGH);
        x.drawn(2, 2);
        x.draws(0);
        x.grow();
        x.draws(44);
        x.undo();
        Due.due("x ahead of grow()", x.count(13), 0);
        Due.due("STAGE", x.count(7), 0);
        x.undo();
        Due.due("x ahead of drawn", x.count(13), HIGH);
        Due.due("RECORDS", x.count(0), 0);
    }

    /** KEPT on SHELF 0, and nothing can be UNDONE. */
    private static RunTapes keptBehindSteps(int kind, int steps) {
        RunTapes x = new RunTapes();
        if (kind == 12) {
            x = Make.twos(150, 3, 0);
        } else {
            x.settle(0, 2);
            x.settle(2, kind % 3);
            x.settle(4, kind / 3 % 2);
            x.settle(5, kind / 6);
            x.drawn(60, 256);
        }
        x.grow();
        x.spread();
        for (int i = 0; i < steps; i++) {
            x.step();
        }
        x.keep(0);
        x.back(0);
        return x;
    }

    /** Six ACTS that make all otherwise. */
    private static RunTapes movedOn(RunTapes x) {
        x.settle(1, x.count(3) == 6 ? 4 : 6);
        x.settle(2, x.count(4) == 0 ? 1 : 0);
        x.settle(5, 1 - x.count(15));
        x.settle(4, 1 - x.count(6));
        x.grow();
        x.spread();
        return x;
    }

    private static RunTapes undoneSix(RunTapes x) {
        for (int i = 0; i < 6; i++) {
            x.undo();
        }
        return x;
    }

    private static void undoInTheMidst() {
        Due.sentence(0, "all is as ahead of it (x, too)");
        int[] steps = {0, 1, 3, 7, 12};
        for (int i = 0; i <= 12; i++) {
            int kind = i;
            for (int j : steps) {
                int behind = kind == 12 ? 11 * j : j;
                Supplier<RunTapes> plain = () -> keptBehindSteps(kind, behind);
                Twins.same("UNDONE, " + kind + " behind " + behind, () -> undoneSix(movedOn(plain.get())), plain);
                Twins.same("back, " + kind + " behind " + behind, () -> {
                    RunTapes x = movedOn(plain.get());
                    x.back(0);
                    return x;
                }, plain);
            }
        }
    }

    // ---- promises 32 and 33

    private static void keepOnBothShelves() {
        Due.sentence(32, "All is KEPT on a SHELF (0, 1): how many RECORDS");
        RunTapes x = new RunTapes();
        Due.due("keep(0) of none", x.keep(0), 0);
        x.drawn(1, 1);
        Due.due("keep(1) of one", x.keep(1), 1);
        Due.due("keep(0) over the other", x.keep(0), 1);
        RunTapes full = Make.full();
        Due.due("keep(0) of 300", full.keep(0), 300);
        full.clear();
        Due.due("keep(1) of none", full.keep(1), 0);
        Due.due("back(0)", full.back(0), 300);
        Due.due("back(1)", full.back(1), 0);
        full.drawn(2, 2);
        Due.due("keep(1) over what was there", full.keep(1), 2);
        full.clear();
        Due.due("back(1)", full.back(1), 2);
        Due.due("back(0) stays", full.back(0), 300);
        Due.sentence(32, "NONE, and nothing happens, without that SHELF");
        int[] wrong = {-1, -2, 2, 3, LOW, HIGH};
        for (int shelf : wrong) {
            Due.due("keep(" + shelf + ")", full.keep(shelf), -1);
        }
    }

    private static void backInEveryStage() {
        Due.sentence(33, "All is as it was KEPT (not x; nothing can be UNDONE then): how many RECORDS");
        for (int i = 0; i <= 3; i++) {
            int stage = i;
            for (int j = 0; j <= 1; j++) {
                int shelf = j;
                RunTapes x = inStage(stage);
                x.keep(shelf);
                x.settle(4, 1);
                x.drawn(5, 5);
                x.draws(99);
                Due.due("back(" + shelf + ")", x.back(shelf), 6);
                Due.due("STAGE", x.count(7), stage);
                Due.due("x", x.count(13), 99);
                Due.due("ACTS", x.count(12), 0);
                Due.due("undo()", x.undo(), -1);
                Twins.same("back(" + shelf + ") in STAGE " + stage, () -> movedAndBack(stage, shelf), () -> keptAndBack(stage, shelf));
            }
        }
        RunTapes y = inStage(2);
        y.keep(0);
        y.back(0);
        y.step();
        Due.due("ACTS behind back", y.count(12), 1);
        Due.due("undo() behind back", y.undo(), 0);
        Due.due("STEPS", y.count(9), 0);
        Due.due("undo() once more", y.undo(), -1);
    }

    private static RunTapes movedAndBack(int stage, int shelf) {
        RunTapes x = inStage(stage);
        x.keep(shelf);
        x.settle(0, 9);
        x.clear();
        x.drawn(50, 256);
        x.grow();
        x.spread();
        x.all();
        x.draws(0);
        x.back(shelf);
        return x;
    }

    private static RunTapes keptAndBack(int stage, int shelf) {
        RunTapes x = inStage(stage);
        x.keep(shelf);
        x.draws(0);
        x.back(shelf);
        return x;
    }

    private static void backOfNothing() {
        Due.sentence(33, "-2, and nothing happens: nothing is");
        RunTapes x = new RunTapes();
        Due.due("back(0)", x.back(0), -2);
        Due.due("back(1)", x.back(1), -2);
        x.drawn(3, 3);
        x.keep(0);
        Due.due("back(1) when 0 is KEPT", x.back(1), -2);
        Due.due("ACTS", x.count(12), 1);
        Due.due("back(0)", x.back(0), 3);
        Due.due("back(1) still", x.back(1), -2);
        Due.sentence(33, "NONE, and nothing happens, without that SHELF");
        int[] wrong = {-1, -2, 2, 3, LOW, HIGH};
        for (int shelf : wrong) {
            Due.due("back(" + shelf + ")", x.back(shelf), -1);
        }
    }

    private static void whatShelvesLeaveOut() {
        Due.sentence(0, "SHELVES: all but the TAPE, x, SHELVES, ACTS.");
        RunTapes x = inStage(1);
        x.feed(1, 2, 3, 4, 5);
        x.draws(10);
        x.keep(0);
        x.end(7);
        x.draws(11);
        x.drawn(4, 4);
        x.keep(1);
        x.draws(12);
        Due.due("back(0)", x.back(0), 6);
        Due.due("the TAPE stays", x.count(14), 7);
        Due.due("x stays", x.count(13), 12);
        Due.due("ACTS", x.count(12), 0);
        Due.due("the other SHELF stays", x.back(1), 10);
        Due.due("x stays", x.count(13), 12);
        x.clear();
        x.undo();
        Due.due("undo() leaves SHELVES", x.back(0), 6);
    }

    // ---- promise 34

    private static void countRunsAndTallies() {
        Due.sentence(34, "1: RUNS (0 if not GROWN)");
        for (int stage = 0; stage <= 3; stage++) {
            Due.due("count(1) in STAGE " + stage, inStage(stage).count(1), stage == 0 ? 0 : 3);
        }
        RunTapes x = inStage(3);
        x.settle(0, 16);
        Due.due("count(1) behind settle", x.count(1), 0);
        x.grow();
        Due.due("count(1) when GROWN again", x.count(1), 1);
        Due.sentence(34, "(8 to 11 since RUNS were SPREAD; 0 ahead of that)");
        int[][] due = {{0, 0, 0, 0}, {0, 0, 0, 0}, {0, 0, 0, 0}, {10, 2, 2, 0}};
        for (int stage = 0; stage <= 3; stage++) {
            for (int what = 8; what <= 11; what++) {
                Due.due("count(" + what + ") in STAGE " + stage, inStage(stage).count(what), due[stage][what - 8]);
            }
        }
        RunTapes y = inStage(3);
        y.settle(4, 1);
        y.grow();
        for (int what = 8; what <= 11; what++) {
            Due.due("count(" + what + ") when GROWN again", y.count(what), 0);
        }
        y.spread();
        for (int what = 8; what <= 11; what++) {
            Due.due("count(" + what + ") when SPREAD again", y.count(what), 0);
        }
        y.all();
        int[] again = {10, 2, 2, 10};
        for (int what = 8; what <= 11; what++) {
            Due.due("count(" + what + ") when MERGED again", y.count(what), again[what - 8]);
        }
    }

    private static void countOthers() {
        Due.sentence(34, "NONE for others.");
        int[] wrong = {-1, -2, 16, 17, LOW, HIGH};
        for (int stage = 0; stage <= 3; stage++) {
            RunTapes x = inStage(stage);
            for (int what : wrong) {
                Due.due("count(" + what + ")", x.count(what), -1);
            }
            for (int what = 0; what <= 15; what++) {
                Due.due("count(" + what + ") is told", Math.min(0, x.count(what)), 0);
            }
        }
        Due.due("count(15)", inStage(0).count(15), 0);
        Due.due("count(0)", inStage(0).count(0), 6);
        RunTapes far = new RunTapes();
        far.draws(HIGH);
        for (int i = 0; i < 10; i++) {
            far.feed(0, 0, 0, 0, 0);
        }
        Due.due("count(13) of the highest", far.count(13), HIGH);
        Due.due("count(14) of a full TAPE", far.count(14), 200);
    }

    // ---- how long an object is used

    private static void fiveHundredAndTwelveCalls() {
        Due.sentence(0, "An object is used for at most 512 calls after it has been made");
        RunTapes x = new RunTapes();
        x.draws(1);
        // 508 calls that UNDO or do one ACT each; the 510th to 512th still answer
        for (int i = 0; i < 254; i++) {
            Due.due("drawn", x.drawn(1 + i % 100, 256), 1 + i % 100);
            Due.due("undo()", x.undo(), 0);
        }
        Due.due("the 510th call", x.drawn(3, 1), 3);
        Due.due("the 511th call", x.grow(), 1);
        Due.due("the 512th call", x.spread(), 0);
    }

    public static void main(String[] args) {
        everyAct();
        clearOfNoneIsAnAct();
        noActs();
        questionsChangeNothing();
        theLastEight();
        undoAndActAgain();
        undoOfNone();
        undoOfX();
        undoInTheMidst();
        keepOnBothShelves();
        backInEveryStage();
        backOfNothing();
        whatShelvesLeaveOut();
        countRunsAndTallies();
        countOthers();
        fiveHundredAndTwelveCalls();
        Due.finish();
    }
}
