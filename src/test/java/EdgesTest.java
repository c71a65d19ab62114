/** Every call with arguments from the edges of int, in every stage: none throws, and a refused one changes nothing. */
public final class EdgesTest {
    private static final int[] ODD = {Integer.MIN_VALUE, Integer.MIN_VALUE + 1, -256, -4, -3, -2, -1, 0, 1, 2, 3, 4, 5, 6,
        7, 8, 15, 16, 17, 99, 149, 150, 151, 255, 256, 299, 300, 301, 1 << 20, Integer.MAX_VALUE - 1, Integer.MAX_VALUE};
    private static int wrong;

    private static void fail(String what) {
        wrong++;
        System.out.println(what);
    }

    /** Questions change nothing; what they answer is at least -3. */
    private static void askAll(RunTapes x) {
        for (int a : ODD) {
            int low = Math.min(x.least(a), Math.min(x.plan(a), Math.min(x.depth(a), x.units(a))));
            low = Math.min(low, Math.min(x.sorted(a), Math.min(x.keys(a), Math.min(x.about(a), x.needs(a)))));
            low = Math.min(low, Math.min(x.count(a), x.stands()));
            for (int b : ODD) {
                low = Math.min(low, Math.min(x.record(a, b), Math.min(x.run(a, b), x.tape(a, b))));
                low = Math.min(low, Math.min(x.perfect(a, b), Math.min(x.key(a, b), x.forecast(a, b))));
            }
            if (low < -3) {
                fail("an answer below -3 with " + a);
            }
        }
        for (int a = -1; a < 8; a++) {
            for (int b : ODD) {
                for (int c : ODD) {
                    if (x.on(a, b, c) < -3 || x.planned(a, b, c) < -3) {
                        fail("an answer below -3 with " + a + " " + b + " " + c);
                    }
                }
            }
        }
    }

    private static int[] state(RunTapes x) {
        int[] all = new int[16 + 24];
        for (int what = 0; what < 16; what++) {
            all[what] = x.count(what);
        }
        for (int t = 0; t < 6; t++) {
            for (int what = 0; what < 4; what++) {
                all[16 + 4 * t + what] = x.tape(t, what);
            }
        }
        return all;
    }

    private static void same(RunTapes x, int[] before, String call) {
        if (!java.util.Arrays.equals(before, state(x))) {
            fail(call + " was refused, yet something happened");
        }
    }

    private static void refuseAll(RunTapes x) {
        int[] before = state(x);
        for (int a : ODD) {
            for (int b : ODD) {
                if (a < 0 || a > 5 || b > 16 || b < 0) {
                    if (x.settle(a, b) >= 0) {
                        fail("settle(" + a + ", " + b + ") was taken");
                    }
                    same(x, before, "settle");
                }
                if (a < 1 || a > 100 || b < 1 || b > 256) {
                    if (x.drawn(a, b) != -1) {
                        fail("drawn(" + a + ", " + b + ") was taken");
                    }
                    same(x, before, "drawn");
                }
            }
            if (a < 0 && (x.end(a) != -1 || x.draws(a) != -1)) {
                fail("below 0: " + a);
            }
            if (a > 200 && x.end(a) != -1) {
                fail("end(" + a + ")");
            }
            if ((a < 0 || a > 1) && (x.keep(a) != -1 || x.back(a) != -1)) {
                fail("shelf " + a);
            }
            same(x, before, "a call with " + a);
        }
    }

    private static void inEveryStage(int[] settings, int records) {
        RunTapes x = new RunTapes();
        for (int what = 0; what < settings.length; what++) {
            x.settle(what, settings[what]);
        }
        askAll(x);
        for (int told = 0; told < records; told += 100) {
            x.drawn(Math.min(100, records - told), 256);
        }
        askAll(x);
        refuseAll(x);
        x.grow();
        askAll(x);
        refuseAll(x);
        x.spread();
        askAll(x);
        refuseAll(x);
        x.step();
        x.phase();
        askAll(x);
        refuseAll(x);
        x.all();
        askAll(x);
        refuseAll(x);
        int[] before = state(x);
        x.grow();
        x.spread();
        if (x.count(7) == 3) {
            x.step();
            x.phase();
            x.all();
            same(x, before, "a step when merged");
        }
    }

    /** The most runs and the longest rows: falling keys in the least room, by each way. */
    private static void mostRuns() {
        for (int i = 0; i < 3 * 4 * 2 * 2; i++) {
            RunTapes x = new RunTapes();
            x.settle(0, 2);
            x.settle(1, 3 + i % 4);
            x.settle(2, i / 4 % 3);
            x.settle(3, i / 12 % 2);
            x.settle(4, i / 24 % 2);
            for (int key = 250; key > 0; key--) {
                x.feed(key << 24, 0, 0, 0, 0);
                x.end(x.count(14) - 19);
                if (x.count(14) == 180 || key == 1) {
                    x.tell();
                }
            }
            if (x.count(0) != 250 || x.grow() != 125) {
                fail("125 runs are due, " + x.count(1) + " are there");
            }
            boolean can = i / 4 % 3 != 1 || i % 4 != 0;
            int moves = x.plan(0);
            if (can != x.spread() >= 0 || can != x.all() > 0) {
                fail("spread and merged: " + i);
            }
            for (int k = 0; can && k < 250; k++) {
                if (x.sorted(k) != 249 - k) {
                    fail("sorted(" + k + ") of " + i);
                }
            }
            if (can && x.count(8) != moves) {
                fail("the plan told other moves: " + i);
            }
        }
    }

    public static void main(String[] args) {
        int[] records = {0, 1, 2, 37, 300};
        for (int i = 0; i < 3 * 4 * 2 && wrong == 0; i++) {
            int[] settings = {2 + i % 3, 3 + i % 4, i / 4 % 3, i % 2, i / 12 % 2, i / 2 % 2};
            inEveryStage(settings, records[i % records.length]);
        }
        mostRuns();
        System.out.println(wrong == 0 ? "the edges hold" : wrong + " faults at the edges");
        if (wrong != 0) {
            System.exit(1);
        }
    }
}
