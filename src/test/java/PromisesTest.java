/** Each promise of the document by answers that were worked out by hand. */
public final class PromisesTest {
    private static int wrong;
    private static int promise;

    private static void due(String call, int got, int want) {
        if (got != want) {
            wrong++;
            System.out.println("promise " + promise + ": " + call + " answered " + got + ", due is " + want);
        }
    }

    // ---- objects to begin with

    /** The keys are told as bytes, twenty at a time. */
    private static void tellKeys(RunTapes x, int... keys) {
        for (int begin = 0; begin < keys.length; begin += 20) {
            int[] word = new int[5];
            int n = Math.min(20, keys.length - begin);
            for (int i = 0; i < n; i++) {
                word[i / 4] |= keys[begin + i] << (24 - 8 * (i % 4));
            }
            x.feed(word[0], word[1], word[2], word[3], word[4]);
            x.end(n);
            x.tell();
        }
    }

    private static RunTapes with(int room, int tapes, int way) {
        RunTapes x = new RunTapes();
        x.settle(0, room);
        x.settle(1, tapes);
        x.settle(2, way);
        return x;
    }

    /** Keys n - 1 down to 0, in a room of 2: runs of two records, the i-th has records 2i + 1, 2i. */
    private static RunTapes falling(int n, int tapes, int way) {
        RunTapes x = with(2, tapes, way);
        int[] keys = new int[n];
        for (int i = 0; i < n; i++) {
            keys[i] = n - 1 - i;
        }
        tellKeys(x, keys);
        return x;
    }

    /** Runs 1 0 2 4 / 3 5 6 / 7; by turns 1 0 2 4 / 5 3 7 (falls) / 6. */
    private static RunTapes eight() {
        RunTapes x = with(2, 4, 0);
        tellKeys(x, 7, 3, 7, 1, 9, 2, 8, 0);
        return x;
    }

    /** Each row is the runs of a tape in the order in which they are taken, by their first record, -1 a dummy. */
    private static void tapesDue(RunTapes x, int[][] rows) {
        for (int t = 0; t < rows.length; t++) {
            due("tape(" + t + ", 0)", x.tape(t, 0), rows[t].length);
            int dummies = 0;
            for (int k = 0; k < rows[t].length; k++) {
                int first = rows[t][k];
                dummies += first < 0 ? 1 : 0;
                due("on(" + t + ", " + k + ", 0)", x.on(t, k, 0), first < 0 ? -3 : first);
            }
            due("tape(" + t + ", 1)", x.tape(t, 1), dummies);
        }
    }

    private static void toDue(RunTapes x, int tapes, int to) {
        for (int t = 0; t < tapes; t++) {
            due("tape(" + t + ", 3)", x.tape(t, 3), t == to ? 1 : 0);
        }
    }

    private static void sortedDue(RunTapes x, int... records) {
        for (int k = 0; k < records.length; k++) {
            due("sorted(" + k + ")", x.sorted(k), records[k]);
        }
        due("sorted beyond", x.sorted(records.length), -1);
        due("sorted(-1)", x.sorted(-1), -1);
    }

    // ---- promises 1 to 8

    private static void newObject() {
        promise = 1;
        RunTapes x = new RunTapes();
        int[] first = {0, 0, 4, 4, 0, 0, 0, 0, 0, 0, 0, 0, 0, 0, 0, 0};
        for (int what = 0; what < first.length; what++) {
            due("count(" + what + ")", x.count(what), first[what]);
        }
    }

    private static void feedAndEnd() {
        promise = 2;
        RunTapes x = new RunTapes();
        due("feed", x.feed(0x01020304, -1, 0x80000000, 0x7f00ff00, 0x000000fe), 20);
        due("tell", x.tell(), 20);
        int[] keys = {1, 2, 3, 4, 255, 255, 255, 255, 128, 0, 0, 0, 127, 0, 255, 0, 0, 0, 0, 254};
        for (int k = 0; k < 20; k++) {
            due("record(" + k + ", 0)", x.record(k, 0), keys[k]);
        }
        for (int i = 1; i <= 10; i++) {
            due("feed " + i, x.feed(i, 0, 0, 0, 0), 20 * i);
        }
        due("feed beyond 200", x.feed(1, 1, 1, 1, 1), -1);
        due("count(14)", x.count(14), 200);
        promise = 3;
        due("end(201)", x.end(201), -1);
        due("end(-1)", x.end(-1), -1);
        due("end(200)", x.end(200), 200);
        due("end(181)", x.end(181), 181);
        due("count(14)", x.count(14), 181);
        due("feed with 181", x.feed(0, 0, 0, 0, 0), -1);
        due("end(180)", x.end(180), 180);
        due("feed with 180", x.feed(0, 0, 0, 0, 0), 200);
        due("end(4)", x.end(4), 4);
        due("end(5)", x.end(5), -1);
        due("tell", x.tell(), 24);
        due("record(23, 0)", x.record(23, 0), 1);
        due("end(0) of none", x.end(0), 0);
        due("end(1) of none", x.end(1), -1);
    }

    private static void tell() {
        promise = 4;
        RunTapes x = new RunTapes();
        due("tell of none", x.tell(), -1);
        due("count(12)", x.count(12), 0);
        x.drawn(100, 9);
        x.drawn(100, 9);
        x.drawn(99, 9);
        x.feed(0, 0, 0, 0, 0);
        x.end(2);
        due("tell beyond 300", x.tell(), -1);
        due("the tape stays", x.count(14), 2);
        due("count(12)", x.count(12), 3);
        x.end(1);
        due("tell up to 300", x.tell(), 300);
        due("the tape is empty", x.count(14), 0);
        due("count(0)", x.count(0), 300);
        x.grow();
        due("stage", x.count(7), 1);
        RunTapes y = eight();
        y.grow();
        y.spread();
        tellKeys(y, 4);
        due("told behind", y.record(8, 0), 4);
        due("stage is 0 then", y.count(7), 0);
        due("runs are gone", y.count(1), 0);
    }

    private static void drawing() {
        promise = 5;
        RunTapes x = new RunTapes();
        due("drawn(5, 256)", x.drawn(5, 256), 5);
        int[] keys = {0, 220, 4, 101, 170};
        for (int k = 0; k < 5; k++) {
            due("record(" + k + ", 0)", x.record(k, 0), keys[k]);
        }
        due("count(13)", x.count(13), 229283573);
        due("drawn(0, 1)", x.drawn(0, 1), -1);
        due("drawn(101, 1)", x.drawn(101, 1), -1);
        due("drawn(1, 0)", x.drawn(1, 0), -1);
        due("drawn(1, 257)", x.drawn(1, 257), -1);
        due("x is as it was", x.count(13), 229283573);
        due("count(12)", x.count(12), 1);
        due("drawn(100, 1)", x.drawn(100, 1), 105);
        due("record(104, 0)", x.record(104, 0), 0);
        x.drawn(100, 3);
        due("drawn(96, 3)", x.drawn(96, 3), -1);
        due("drawn(95, 3)", x.drawn(95, 3), 300);
        x.clear();
        x.grow();
        x.drawn(1, 1);
        x.grow();
        x.drawn(1, 1);
        due("stage", x.count(7), 0);
        promise = 6;
        RunTapes y = new RunTapes();
        due("draws", y.draws(12345), 0);
        due("draws(-1)", y.draws(-1), -1);
        due("count(13)", y.count(13), 12345);
        due("no act", y.count(12), 0);
        y.drawn(1, 256);
        due("record", y.record(0, 0), 220);
        due("draws", y.draws(Integer.MAX_VALUE), 1406932606);
        due("draws", y.draws(0), Integer.MAX_VALUE);
        y.draws(Integer.MAX_VALUE);
        y.drawn(1, 7);
        // 2147483647 * 1103515245 + 12345, of 2147483648 the rest, is 12345 - 1103515245 + 2147483648
        due("count(13)", y.count(13), 1043980748);
        due("record(1, 0)", y.record(1, 0), 1043980748 / 65536 % 7);
    }

    private static void clearing() {
        promise = 7;
        RunTapes x = eight();
        x.grow();
        x.spread();
        x.all();
        due("clear", x.clear(), 8);
        due("count(0)", x.count(0), 0);
        due("stage", x.count(7), 0);
        due("moves", x.count(8), 0);
        due("room stays", x.count(2), 2);
        due("grow", x.grow(), -1);
        due("clear of none", x.clear(), 0);
        due("undo", x.undo(), 6);
        due("still none", x.count(0), 0);
        due("undo", x.undo(), 5);
        due("count(0)", x.count(0), 8);
        due("stage", x.count(7), 3);
    }

    private static void settling() {
        promise = 8;
        int[] low = {2, 3, 0, 0, 0, 0};
        int[] high = {16, 6, 2, 1, 1, 1};
        int[] first = {4, 4, 0, 0, 0, 0};
        int[] counted = {2, 3, 4, 5, 6, 15};
        for (int what = 0; what < 6; what++) {
            RunTapes x = eight();
            x.settle(0, 4);
            x.grow();
            due("settle below", x.settle(what, low[what] - 1), -1);
            due("settle above", x.settle(what, high[what] + 1), -1);
            due("settle as it is", x.settle(what, first[what]), -2);
            due("nothing happened", x.count(7), 1);
            int acts = x.count(12);
            due("settle(" + what + ")", x.settle(what, high[what]), first[what]);
            due("stage", x.count(7), 0);
            due("acts", x.count(12), acts + 1);
            due("settled", x.count(counted[what]), high[what]);
            if (low[what] != first[what]) {
                due("settle lowest", x.settle(what, low[what]), high[what]);
            }
            due("records stay", x.count(0), 8);
        }
        RunTapes y = new RunTapes();
        due("settle(-1, 4)", y.settle(-1, 4), -1);
        due("settle(6, 0)", y.settle(6, 0), -1);
    }

    // ---- promises 9 to 15

    private static void runDue(RunTapes x, int k, int falls, int... records) {
        due("run(" + k + ", -1)", x.run(k, -1), records.length);
        due("run(" + k + ", -2)", x.run(k, -2), falls);
        for (int i = 0; i < records.length; i++) {
            due("run(" + k + ", " + i + ")", x.run(k, i), records[i]);
            due("record(" + records[i] + ", 1)", x.record(records[i], 1), k);
        }
        due("run(" + k + ", beyond)", x.run(k, records.length), -3);
    }

    private static void growing() {
        promise = 9;
        RunTapes x = eight();
        due("record ahead of that", x.record(0, 1), -1);
        due("grow", x.grow(), 3);
        due("grow again", x.grow(), -2);
        due("count(1)", x.count(1), 3);
        due("stage", x.count(7), 1);
        promise = 15;
        runDue(x, 0, 0, 1, 0, 2, 4);
        runDue(x, 1, 0, 3, 5, 6);
        runDue(x, 2, 0, 7);
        due("run(3, -1)", x.run(3, -1), -1);
        due("run(-1, -1)", x.run(-1, -1), -1);
        due("run(0, -3)", x.run(0, -3), -1);
        x.settle(5, 1);
        due("run of none", x.run(0, -1), -1);
        due("grow by turns", x.grow(), 3);
        runDue(x, 0, 0, 1, 0, 2, 4);
        runDue(x, 1, 1, 5, 3, 7);
        runDue(x, 2, 0, 6);
        promise = 14;
        due("record(0, 0)", x.record(0, 0), 7);
        due("record(7, 1)", x.record(7, 1), 1);
        due("record(8, 0)", x.record(8, 0), -1);
        due("record(-1, 0)", x.record(-1, 0), -1);
        due("record(0, 2)", x.record(0, 2), -1);
        due("record(0, -1)", x.record(0, -1), -1);
        promise = 9;
        RunTapes y = with(2, 4, 0);
        due("grow without records", y.grow(), -1);
        tellKeys(y, 9, 9, 3, 3, 3, 3);
        y.settle(5, 1);
        due("grow", y.grow(), 3);
        runDue(y, 0, 0, 0, 1);
        runDue(y, 1, 1, 3, 2);
        runDue(y, 2, 0, 4, 5);
        RunTapes z = with(16, 4, 0);
        tellKeys(z, 3, 3, 1);
        due("room for all", z.grow(), 1);
        runDue(z, 0, 0, 2, 0, 1);
    }

    private static void polyphase() {
        promise = 10;
        RunTapes x = falling(8, 4, 0);
        due("spread ahead of growth", x.spread(), -1);
        due("grow", x.grow(), 4);
        due("spread", x.spread(), 1);
        due("spread again", x.spread(), -2);
        due("stage", x.count(7), 2);
        tapesDue(x, new int[][] {{-1, 3}, {1, 5}, {7}, {}});
        toDue(x, 4, 3);
        promise = 11;
        due("step", x.step(), 4);
        tapesDue(x, new int[][] {{3}, {5}, {}, {7}});
        toDue(x, 4, 2);
        due("sorted not yet", x.sorted(0), -2);
        due("step", x.step(), 8);
        due("stage", x.count(7), 3);
        toDue(x, 4, 0);
        due("step when merged", x.step(), -2);
        promise = 18;
        sortedDue(x, 7, 6, 5, 4, 3, 2, 1, 0);
        promise = 34;
        due("moves", x.count(8), 12);
        due("steps", x.count(9), 2);
        due("phases", x.count(10), 2);
        due("turned", x.count(11), 0);
        promise = 10;
        RunTapes one = with(4, 3, 2);
        tellKeys(one, 8, 7);
        one.grow();
        due("one run", one.spread(), 0);
        due("merged at once", one.count(7), 3);
        sortedDue(one, 1, 0);
        RunTapes none = falling(8, 3, 1);
        none.grow();
        due("three tapes, balanced", none.spread(), -1);
        due("nothing happened", none.count(7), 1);
    }

    private static void dummies() {
        promise = 10;
        RunTapes x = falling(12, 4, 0);
        x.grow();
        due("even", x.spread(), 3);
        tapesDue(x, new int[][] {{-1, 1, 3, 7}, {-1, 5, 9}, {-1, 11}, {}});
        promise = 16;
        due("tape(0, 2)", x.tape(0, 2), 6);
        due("tape(2, 2)", x.tape(2, 2), 2);
        due("tape(3, 2)", x.tape(3, 2), 0);
        due("tape(4, 0)", x.tape(4, 0), -1);
        due("tape(-1, 0)", x.tape(-1, 0), -1);
        due("tape(0, 4)", x.tape(0, 4), -1);
        due("tape(0, -1)", x.tape(0, -1), -1);
        promise = 17;
        due("a dummy has no records", x.on(0, 0, -1), 0);
        due("a dummy stands up", x.on(0, 0, -2), 0);
        due("on(0, 4, -1)", x.on(0, 4, -1), -1);
        due("on(0, -1, -1)", x.on(0, -1, -1), -1);
        due("on(4, 0, -1)", x.on(4, 0, -1), -1);
        due("on(0, 1, -3)", x.on(0, 1, -3), -1);
        due("on(0, 1, 1)", x.on(0, 1, 1), 0);
        due("on(0, 1, 2)", x.on(0, 1, 2), -3);
        promise = 11;
        due("dummies alone", x.step(), 0);
        due("they give a dummy", x.tape(3, 1), 1);
        due("forecast of dummies and runs", x.forecast(1, -1), 3);
        due("the phase goes on", x.count(10), 0);
        promise = 12;
        due("phase", x.phase(), 1);
        toDue(x, 4, 2);
        due("moves", x.count(8), 6);
        due("phase", x.phase(), 1);
        toDue(x, 4, 1);
        due("moves", x.count(8), 10);
        due("phase", x.phase(), 1);
        due("moves", x.count(8), 22);
        due("phase when merged", x.phase(), -2);
        promise = 10;
        x.settle(3, 1);
        x.grow();
        due("front", x.spread(), 3);
        tapesDue(x, new int[][] {{-1, -1, -1, 7}, {1, 3, 9}, {5, 11}, {}});
        promise = 12;
        due("a phase of two steps", x.phase(), 2);
        due("moves", x.count(8), 8);
        promise = 13;
        int acts = x.count(12);
        due("all", x.all(), 2);
        due("all is one act", x.count(12), Math.min(8, acts + 1));
        due("all when merged", x.all(), -2);
        sortedDue(x, 11, 10, 9, 8, 7, 6, 5, 4, 3, 2, 1, 0);
    }

    private static void cascade() {
        promise = 10;
        RunTapes x = falling(12, 6, 2);
        x.grow();
        due("spread", x.spread(), 9);
        tapesDue(x, new int[][] {{-1, -1, 1, 3, 7}, {-1, -1, 5, 9}, {-1, -1, 11}, {-1, -1}, {-1}, {}});
        promise = 11;
        int[] moved = {0, 0, 6, 4, 12};
        int[] to = {4, 3, 2, 1, 0};
        for (int i = 0; i < moved.length; i++) {
            due("step " + i, x.step(), moved[i]);
            due("phases", x.count(10), i + 1);
            toDue(x, 6, to[i]);
        }
        due("stage", x.count(7), 3);
        tapesDue(x, new int[][] {{}, {11}, {}, {}, {}, {}});
    }

    private static void balanced() {
        promise = 10;
        RunTapes x = falling(16, 5, 1);
        x.grow();
        due("spread", x.spread(), 0);
        tapesDue(x, new int[][] {{1, 5, 9, 13}, {3, 7, 11, 15}, {}, {}, {}});
        promise = 11;
        int[] moved = {4, 4, 4, 4, 12, 4, 16};
        int[] to = {3, 4, 2, 0, 1, 2, 0};
        int[] phases = {0, 0, 0, 1, 1, 2, 3};
        toDue(x, 5, 2);
        for (int i = 0; i < moved.length; i++) {
            due("step " + i, x.step(), moved[i]);
            due("phases", x.count(10), phases[i]);
            toDue(x, 5, to[i]);
        }
        due("stage", x.count(7), 3);
        promise = 12;
        x.settle(0, 3);
        x.settle(0, 2);
        x.grow();
        x.spread();
        due("phase", x.phase(), 4);
        due("phase", x.phase(), 2);
        due("phase", x.phase(), 1);
    }

    private static void readBack() {
        promise = 11;
        RunTapes x = falling(8, 4, 0);
        x.settle(4, 1);
        x.grow();
        x.spread();
        tapesDue(x, new int[][] {{-1, 3}, {5, 1}, {7}, {}});
        due("step", x.step(), 4);
        due("turned", x.count(11), 0);
        due("stands down", x.on(3, 0, -2), 1);
        for (int i = 0; i < 4; i++) {
            due("on(3, 0, " + i + ")", x.on(3, 0, i), 4 + i);
        }
        due("plan of turned", x.plan(3), 12);
        due("step", x.step(), 8);
        due("turned", x.count(11), 12);
        due("stands up", x.on(2, 0, -2), 0);
        due("rising", x.on(2, 0, 0), 7);
        promise = 20;
        RunTapes y = eight();
        y.settle(5, 1);
        y.settle(1, 3);
        y.grow();
        // tape 0: runs 0 (4, up), 1 (3, down); tape 1: run 2 (1, up)
        due("forwards run 1 is turned", y.plan(3), 3);
        due("moves", y.plan(0), 5 + 8);
        y.settle(4, 1);
        y.grow();
        // back: run 1 (down) leads, run 2 is turned, written up; run 0 (up) and that fall; at the end all is turned
        due("back", y.plan(3), 1 + 8);
        due("moves", y.plan(0), 4 + 8);
    }

    private static void papers() {
        promise = 19;
        RunTapes x = new RunTapes();
        x.settle(1, 6);
        int[] poly = {31, 30, 28, 24, 16};
        int[] casc = {671, 190, 175, 146, 105, 55};
        for (int t = 0; t < 5; t++) {
            due("perfect(6, " + t + ")", x.perfect(6, t), poly[t]);
        }
        due("perfect(6, -1)", x.perfect(6, -1), 129);
        due("perfect(0, 1)", x.perfect(0, 1), 0);
        due("perfect(8, -1)", x.perfect(8, -1), 497);
        due("perfect(9, 0)", x.perfect(9, 0), -1);
        due("perfect(-1, 0)", x.perfect(-1, 0), -1);
        due("perfect(0, 5)", x.perfect(0, 5), -1);
        due("perfect(0, -2)", x.perfect(0, -2), -1);
        x.settle(2, 2);
        for (int t = -1; t < 5; t++) {
            due("perfect(5, " + t + ")", x.perfect(5, t), casc[t + 1]);
        }
        x.settle(2, 1);
        due("perfect balanced", x.perfect(0, 0), -1);
        promise = 20;
        RunTapes y = falling(12, 4, 0);
        due("plan ahead of growth", y.plan(0), -1);
        y.grow();
        int[] plan = {22, 4, 3, 0, 3, 3};
        for (int round = 0; round < 3; round++) {
            for (int what = 0; what < 6; what++) {
                due("plan(" + what + ")", y.plan(what), plan[what]);
            }
            y.spread();
            y.step();
        }
        due("plan(6)", y.plan(6), -1);
        due("plan(-1)", y.plan(-1), -1);
        due("a plan moves nothing", y.count(9), 3);
        promise = 21;
        due("planned as it is", y.planned(0, 4, 0), 22);
        due("cascade", y.planned(2, 6, 0), 22);
        due("balanced", y.planned(1, 5, 0), 24);
        due("balanced, 3", y.planned(1, 3, 0), -1);
        due("way -1", y.planned(-1, 4, 0), -1);
        due("way 3", y.planned(3, 4, 0), -1);
        due("2 tapes", y.planned(0, 2, 0), -1);
        due("7 tapes", y.planned(0, 7, 0), -1);
        due("back 2", y.planned(0, 4, 2), -1);
        due("back -1", y.planned(0, 4, -1), -1);
        due("settings stay", y.count(3), 4);
        promise = 22;
        due("least(2)", y.least(2), 32);
        due("least(3)", y.least(3), 22);
        due("least(4)", y.least(4), 18);
        due("least(5)", y.least(5), 16);
        due("least(1)", y.least(1), -1);
        due("least(6)", y.least(6), -1);
        promise = 23;
        int[] depth = {2, 2, 2, 1, 2, 2};
        for (int k = 0; k < 6; k++) {
            due("depth(" + k + ")", y.depth(k), depth[k]);
        }
        due("depth(6)", y.depth(6), -1);
        due("depth(-1)", y.depth(-1), -1);
        promise = 25;
        due("stands", y.stands(), 5);
        y.settle(1, 3);
        y.settle(2, 1);
        y.grow();
        due("stands, balanced, 3", y.stands(), -1);
        promise = 20;
        due("plan, balanced, 3", y.plan(0), -1);
        promise = 23;
        due("depth, balanced, 3", y.depth(0), -1);
        promise = 21;
        due("planned needs growth alone", y.planned(1, 5, 0), 24);
        promise = 20;
        y.settle(1, 5);
        y.grow();
        due("level when balanced", y.plan(5), -1);
        due("dummies when balanced", y.plan(4), 0);
        promise = 25;
        due("stands", y.stands(), 5);
    }

    private static void units() {
        promise = 24;
        RunTapes x = new RunTapes();
        int[] poly = {0, 3, 8, 20};
        for (int level = 0; level < 4; level++) {
            due("units(" + level + ")", x.units(level), poly[level]);
        }
        due("units(-1)", x.units(-1), -1);
        due("units(6)", x.units(6), -1);
        x.settle(2, 2);
        due("units(1)", x.units(1), 3);
        due("units(2)", x.units(2), 11);
        x.settle(2, 1);
        due("units balanced", x.units(1), -1);
    }

    // ---- promises 26 to 30

    private static void keys() {
        promise = 26;
        RunTapes x = eight();
        due("key(7, 0)", x.key(7, 0), 2);
        due("key(7, 1)", x.key(7, 1), 0);
        due("key(7, 2)", x.key(7, 2), 2);
        due("key(5, 0)", x.key(5, 0), 0);
        due("key(5, 1)", x.key(5, 1), -2);
        due("key(255, 2)", x.key(255, 2), -2);
        due("key(256, 0)", x.key(256, 0), -1);
        due("key(-1, 0)", x.key(-1, 0), -1);
        due("key(7, 3)", x.key(7, 3), -1);
        due("key(7, -1)", x.key(7, -1), -1);
        promise = 27;
        due("keys(0)", x.keys(0), 7);
        due("keys(1)", x.keys(1), 7);
        due("keys(2)", x.keys(2), 2);
        due("keys(3)", x.keys(3), -1);
        due("keys(-1)", x.keys(-1), -1);
        tellKeys(x, 0, 1, 1, 0);
        due("0 comes as often as 1", x.keys(2), 3);
        due("1 came first", x.keys(1), 1);
        x.clear();
        due("keys(0)", x.keys(0), 0);
        due("keys(1)", x.keys(1), -1);
        due("keys(2)", x.keys(2), 0);
        promise = 28;
        RunTapes y = eight();
        // behind 7: 3 1 2 0; 3: 1 2 0; 7: 1 2 0; 1: 0; 9: 2 8 0; 2: 0; 8: 0
        due("about(0)", y.about(0), 4 + 3 + 3 + 1 + 3 + 1 + 1);
        // 7 / 3 7 / 1 9 / 2 8 / 0
        due("about(1)", y.about(1), 5);
        // 0 1 2 3 7 7 8 9: the fourth behind the first is the 7 told ahead
        due("about(2)", y.about(2), 0);
        due("about(3)", y.about(3), -1);
        due("about(-1)", y.about(-1), -1);
        y.clear();
        due("about(0)", y.about(0), 0);
        due("about(1)", y.about(1), 0);
        due("about(2)", y.about(2), -1);
        tellKeys(y, 5, 5, 5);
        due("like ones are no inversions", y.about(0), 0);
        due("like ones are one row", y.about(1), 1);
        due("about(2)", y.about(2), 1);
    }

    private static void foresight() {
        promise = 29;
        RunTapes x = falling(8, 4, 0);
        x.grow();
        due("forecast ahead of spread", x.forecast(1, -1), -1);
        x.spread();
        due("how many", x.forecast(1, -1), 2);
        due("the first", x.forecast(1, 0), 2);
        due("the second", x.forecast(1, 1), 1);
        due("not so many", x.forecast(1, 2), -2);
        due("blocks of 2", x.forecast(2, -1), 0);
        due("blocks of 2", x.forecast(2, 0), -2);
        due("forecast(0, -1)", x.forecast(0, -1), -1);
        due("forecast(17, -1)", x.forecast(17, -1), -1);
        due("forecast(16, -1)", x.forecast(16, -1), 0);
        due("forecast(1, -2)", x.forecast(1, -2), -1);
        promise = 30;
        int[] blocks = {12, 6, 6, 5};
        for (int b = 1; b <= 4; b++) {
            due("needs(" + b + ")", x.needs(b), blocks[b - 1]);
        }
        due("needs(16)", x.needs(16), 5);
        due("needs(0)", x.needs(0), -1);
        due("needs(17)", x.needs(17), -1);
        x.step();
        due("needs from now on", x.needs(1), 8);
        due("needs from now on", x.needs(3), 4);
        due("nothing was moved", x.count(9), 1);
        x.step();
        due("needs when merged", x.needs(1), 0);
        due("wrong when merged", x.needs(0), -1);
        promise = 29;
        due("forecast when merged", x.forecast(1, -1), -1);
        promise = 30;
        x.settle(4, 1);
        due("needs ahead of spread", x.needs(1), -1);
        promise = 29;
        x.grow();
        x.spread();
        // back: runs 2 (tape 1) and 3 (tape 2) fall: 4 5 of tape 1, then 6 7
        due("back, the first", x.forecast(1, 0), 1);
        due("back, the second", x.forecast(1, 1), 2);
    }

    // ---- promises 31 to 34

    private static void undoing() {
        promise = 31;
        RunTapes x = falling(8, 4, 0);
        int acts = x.count(12);
        due("room and records", acts, 2);
        x.grow();
        x.spread();
        x.step();
        x.all();
        due("acts", x.count(12), 6);
        due("undo all", x.undo(), 5);
        due("steps", x.count(9), 1);
        due("stage", x.count(7), 2);
        tapesDue(x, new int[][] {{3}, {5}, {}, {7}});
        due("undo step", x.undo(), 4);
        tapesDue(x, new int[][] {{-1, 3}, {1, 5}, {7}, {}});
        due("undo spread", x.undo(), 3);
        due("stage", x.count(7), 1);
        due("tapes are gone", x.tape(0, 0), -1);
        due("undo grow", x.undo(), 2);
        due("runs are gone", x.count(1), 0);
        due("undo tell", x.undo(), 1);
        due("records are gone", x.count(0), 0);
        due("undo settle", x.undo(), 0);
        due("room", x.count(2), 4);
        due("no more", x.undo(), -1);
        x.draws(7);
        x.drawn(3, 256);
        int after = x.count(13);
        x.draws(99);
        due("undo drawn", x.undo(), 0);
        due("x, too", x.count(13), 7);
        x.drawn(3, 256);
        due("drawn alike", x.count(13), after);
        for (int i = 0; i < 9; i++) {
            x.drawn(1 + i, 9);
        }
        due("eight at most", x.count(12), 8);
        for (int i = 7; i >= 0; i--) {
            due("undo", x.undo(), i);
        }
        due("the oldest two stay", x.count(0), 4);
        due("no more", x.undo(), -1);
    }

    private static void shelves() {
        promise = 32;
        RunTapes x = falling(8, 4, 0);
        due("keep(-1)", x.keep(-1), -1);
        due("keep(2)", x.keep(2), -1);
        due("back of none", x.back(1), -2);
        x.grow();
        x.spread();
        x.step();
        int acts = x.count(12);
        due("keep(1)", x.keep(1), 8);
        due("no act", x.count(12), acts);
        x.all();
        x.settle(0, 9);
        x.draws(77);
        x.feed(1, 2, 3, 4, 5);
        x.clear();
        due("keep(0)", x.keep(0), 0);
        promise = 33;
        due("back(-1)", x.back(-1), -1);
        due("back(2)", x.back(2), -1);
        due("back(1)", x.back(1), 8);
        due("room", x.count(2), 2);
        due("stage", x.count(7), 2);
        due("moves", x.count(8), 4);
        tapesDue(x, new int[][] {{3}, {5}, {}, {7}});
        due("not x", x.count(13), 77);
        due("not the tape", x.count(14), 20);
        due("nothing can be undone", x.count(12), 0);
        due("undo", x.undo(), -1);
        due("all", x.all(), 1);
        due("back(0)", x.back(0), 0);
        due("room", x.count(2), 9);
        due("back(1) once more", x.back(1), 8);
        due("as it was kept", x.count(9), 1);
    }

    private static void counting() {
        promise = 34;
        RunTapes x = falling(12, 4, 0);
        x.settle(3, 1);
        x.settle(5, 1);
        x.settle(4, 1);
        x.grow();
        // run 0 is 1 0; from the third record on all falls, as run 1 does
        int[] counts = {12, 2, 2, 4, 0, 1, 1, 1, 0, 0, 0, 0, 6, 0, 0, 1};
        for (int what = 0; what < counts.length; what++) {
            due("count(" + what + ")", x.count(what), counts[what]);
        }
        due("count(16)", x.count(16), -1);
        due("count(-1)", x.count(-1), -1);
        int[] plan = {x.plan(0), x.plan(1), x.plan(2), x.plan(3)};
        x.spread();
        x.all();
        for (int what = 0; what < 4; what++) {
            due("count(" + (8 + what) + ")", x.count(8 + what), plan[what]);
        }
        x.settle(4, 0);
        for (int what = 8; what < 12; what++) {
            due("count(" + what + ")", x.count(what), 0);
        }
    }

    public static void main(String[] args) {
        promise = 1;
        due("NONE", RunTapes.NONE, -1);
        newObject();
        feedAndEnd();
        tell();
        drawing();
        clearing();
        settling();
        growing();
        polyphase();
        dummies();
        cascade();
        balanced();
        readBack();
        papers();
        units();
        keys();
        foresight();
        undoing();
        shelves();
        counting();
        System.out.println(wrong == 0 ? "the promises hold" : wrong + " answers are not as due");
        if (wrong != 0) {
            System.exit(1);
        }
    }
}
