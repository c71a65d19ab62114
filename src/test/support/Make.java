/** Objects to begin with, and rows of answers to compare. */
final class Make {
    private Make() {
    }

    static RunTapes with(int room, int tapes, int way) {
        RunTapes x = new RunTapes();
        x.settle(0, room);
        x.settle(1, tapes);
        x.settle(2, way);
        return x;
    }

    /** Bytes come behind the TAPE; it must have place for twenty more than are there ahead of the last ones. */
    static void feed(RunTapes x, int... bytes) {
        for (int begin = 0; begin < bytes.length; begin += 20) {
            int before = x.count(14);
            int[] word = new int[5];
            int n = Math.min(20, bytes.length - begin);
            for (int i = 0; i < n; i++) {
                word[i / 4] |= bytes[begin + i] << (24 - 8 * (i % 4));
            }
            x.feed(word[0], word[1], word[2], word[3], word[4]);
            x.end(before + n);
        }
    }

    static RunTapes tell(RunTapes x, int... keys) {
        for (int begin = 0; begin < keys.length; begin += 160) {
            feed(x, java.util.Arrays.copyOfRange(keys, begin, Math.min(keys.length, begin + 160)));
            x.tell();
        }
        return x;
    }

    /**
     * RUNS of two RECORDS each (150 at most) in a ROOM of 2: RUN i has RECORDS 2i and 2i + 1, with KEYS that
     * fall from RUN to RUN. Not yet GROWN.
     */
    static RunTapes twos(int runs, int tapes, int way) {
        int[] keys = new int[2 * runs];
        for (int i = 0; i < runs; i++) {
            keys[2 * i] = 149 - i;
            keys[2 * i + 1] = 255 - i;
        }
        return tell(with(2, tapes, way), keys);
    }

    static RunTapes grownTwos(int runs, int tapes, int way) {
        RunTapes x = twos(runs, tapes, way);
        x.grow();
        return x;
    }

    static RunTapes spreadTwos(int runs, int tapes, int way) {
        RunTapes x = grownTwos(runs, tapes, way);
        x.spread();
        return x;
    }

    /** RECORDS 300, as many as there can be. */
    static RunTapes full() {
        RunTapes x = new RunTapes();
        x.drawn(100, 256);
        x.drawn(100, 256);
        x.drawn(100, 256);
        return x;
    }

    static int[] counts(RunTapes x) {
        int[] row = new int[16];
        for (int what = 0; what < row.length; what++) {
            row[what] = x.count(what);
        }
        return row;
    }

    static int[] keys(RunTapes x) {
        int[] row = new int[x.count(0)];
        for (int k = 0; k < row.length; k++) {
            row[k] = x.record(k, 0);
        }
        return row;
    }

    static int[] run(RunTapes x, int k) {
        int[] row = new int[Math.max(0, x.run(k, -1))];
        for (int i = 0; i < row.length; i++) {
            row[i] = x.run(k, i);
        }
        return row;
    }

    static int[] lengths(RunTapes x) {
        int[] row = new int[x.count(1)];
        for (int k = 0; k < row.length; k++) {
            row[k] = x.run(k, -1);
        }
        return row;
    }

    static int[] sorted(RunTapes x) {
        int[] row = new int[x.count(0)];
        for (int k = 0; k < row.length; k++) {
            row[k] = x.sorted(k);
        }
        return row;
    }

    /** How many RUNS each TAPE has, or (what 1) DUMMIES, (2) RECORDS. */
    static int[] tapes(RunTapes x, int what) {
        int[] row = new int[x.count(3)];
        for (int t = 0; t < row.length; t++) {
            row[t] = x.tape(t, what);
        }
        return row;
    }

    static int to(RunTapes x) {
        int to = -1;
        for (int t = 0; t < x.count(3); t++) {
            if (x.tape(t, 3) == 1) {
                to = to == -1 ? t : 99;
            }
        }
        return to;
    }

    /** The first RECORD of each RUN on a TAPE, in the order in which they are taken, -3 of a DUMMY. */
    static int[] on(RunTapes x, int t) {
        int[] row = new int[Math.max(0, x.tape(t, 0))];
        for (int k = 0; k < row.length; k++) {
            row[k] = x.on(t, k, 0);
        }
        return row;
    }

    /** RECORDS of the k-th RUN on a TAPE as it was written. */
    static int[] on(RunTapes x, int t, int k) {
        int[] row = new int[Math.max(0, x.on(t, k, -1))];
        for (int i = 0; i < row.length; i++) {
            row[i] = x.on(t, k, i);
        }
        return row;
    }

    static int[] forecast(RunTapes x, int block) {
        int[] row = new int[Math.max(0, x.forecast(block, -1))];
        for (int k = 0; k < row.length; k++) {
            row[k] = x.forecast(block, k);
        }
        return row;
    }
}
