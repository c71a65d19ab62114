/** Boundaries of promises 1 to 8 and 26 to 28: RECORDS that come and go, SETTINGS, KEYS. Each sentence by itself. */
public final class TellingEdgesTest {
    private static final int LOW = Integer.MIN_VALUE;
    private static final int HIGH = Integer.MAX_VALUE;

    // ---- promise 1

    private static void aNewObjectHasNoRecords() {
        Due.sentence(1, "No RECORDS.");
        RunTapes x = new RunTapes();
        Due.due("count(0)", x.count(0), 0);
        Due.due("record(0, 0)", x.record(0, 0), -1);
        Due.due("about(2)", x.about(2), -1);
        Due.due("clear()", x.clear(), 0);
        RunTapes y = new RunTapes();
        y.drawn(3, 3);
        Due.due("count(0) of another new object", new RunTapes().count(0), 0);
        Due.due("count(0) of the one", y.count(0), 3);
    }

    private static void settingsAtFirst() {
        Due.sentence(0, "ROOM 2 to 16 (4 at first)");
        RunTapes x = new RunTapes();
        Due.due("count(2)", x.count(2), 4);
        Due.sentence(0, "TAPES 3 to 6 (4)");
        Due.due("count(3)", x.count(3), 4);
        Due.sentence(0, "WAY 0 POLYPHASE, 1 BALANCED, 2 CASCADE (0)");
        Due.due("count(4)", x.count(4), 0);
        Due.sentence(0, "DUMMIES 0 EVEN, 1 FRONT (0)");
        Due.due("count(5)", x.count(5), 0);
        Due.sentence(0, "BACK 0, 1 (0)");
        Due.due("count(6)", x.count(6), 0);
        Due.sentence(0, "GROWTH 0 RISING, 1 BY TURNS (0)");
        Due.due("count(15)", x.count(15), 0);
    }

    // ---- promise 2

    private static void feedBringsTwentyBytes() {
        Due.sentence(2, "Twenty bytes come behind the TAPE, of each number the highest first: how many it has");
        RunTapes x = new RunTapes();
        Due.due("feed", x.feed(0x00010203, LOW, HIGH, -1, 0xfefdfcfb), 20);
        x.end(19);
        Due.due("feed behind 19", x.feed(0x0a0b0c0d, 0, 0, 0, 0x0000000e), 39);
        x.tell();
        Due.dueAll("keys", Make.keys(x), 0, 1, 2, 3, 128, 0, 0, 0, 127, 255, 255, 255, 255, 255, 255, 255, 254, 253, 252,
            10, 11, 12, 13, 0, 0, 0, 0, 0, 0, 0, 0, 0, 0, 0, 0, 0, 0, 0, 14);
    }

    private static void feedUpToTwoHundred() {
        Due.sentence(2, "NONE, and none comes, if it would have more than 200");
        for (int there = 178; there <= 200; there++) {
            RunTapes x = new RunTapes();
            for (int i = 0; i < 10; i++) {
                x.feed(0x07070707, 0x07070707, 0x07070707, 0x07070707, 0x07070707);
            }
            x.end(there);
            int want = there <= 180 ? there + 20 : -1;
            Due.due("feed with " + there, x.feed(-1, -1, -1, -1, -1), want);
            Due.due("bytes then", x.count(14), want == -1 ? there : want);
            x.tell();
            Due.due("sevens then", x.key(7, 0), there);
            Due.due("others then", x.key(255, 0), want == -1 ? 0 : 20);
        }
        RunTapes y = new RunTapes();
        for (int i = 1; i <= 10; i++) {
            Due.due("feed " + i, y.feed(i, i, i, i, i), 20 * i);
        }
        for (int i = 0; i < 3; i++) {
            Due.due("feed of a full TAPE", y.feed(0, 0, 0, 0, 0), -1);
        }
        Due.due("count(14)", y.count(14), 200);
    }

    // ---- promise 3

    private static void endKeepsTheFirstBytes() {
        Due.sentence(3, "The TAPE has its first n bytes alone: n");
        for (int n = 0; n <= 20; n++) {
            RunTapes x = new RunTapes();
            x.feed(0x01020304, 0x05060708, 0x090a0b0c, 0x0d0e0f10, 0x11121314);
            Due.due("end(" + n + ")", x.end(n), n);
            Due.due("bytes", x.count(14), n);
            Due.due("end of as many as there are", x.end(n), n);
            Due.due("tell()", x.tell(), n == 0 ? -1 : n);
            Due.due("the last key", x.record(n - 1, 0), n == 0 ? -1 : n);
        }
        RunTapes y = new RunTapes();
        for (int i = 0; i < 10; i++) {
            y.feed(0, 0, 0, 0, 0);
        }
        Due.due("end(200)", y.end(200), 200);
        Due.due("end(199)", y.end(199), 199);
        Due.due("end(200) behind that", y.end(200), -1);
        Due.due("end(0)", y.end(0), 0);
        Due.due("end(0) of none", y.end(0), 0);
        Due.due("end(1) of none", y.end(1), -1);
    }

    private static void endOfWrongNumbers() {
        Due.sentence(3, "NONE, and nothing happens, if it has not so many, or n is below 0");
        int[] wrong = {21, 22, 200, 201, HIGH, -1, -2, LOW};
        for (int n : wrong) {
            RunTapes x = new RunTapes();
            x.feed(0x01020304, 0x05060708, 0x090a0b0c, 0x0d0e0f10, 0x11121314);
            Due.due("end(" + n + ")", x.end(n), -1);
            Due.due("bytes", x.count(14), 20);
            x.tell();
            Due.due("the last key", x.record(19, 0), 20);
        }
    }

    // ---- promise 4

    private static void tellTakesAll() {
        Due.sentence(4, "The TAPE's bytes (0 to 255; it is empty then) are KEYS of RECORDS that come behind the others: how many RECORDS");
        RunTapes x = new RunTapes();
        Make.feed(x, 255);
        Due.due("tell() of one", x.tell(), 1);
        Due.due("bytes", x.count(14), 0);
        Make.feed(x, 0, 1, 254);
        Due.due("tell() of three", x.tell(), 4);
        Due.dueAll("keys", Make.keys(x), 255, 0, 1, 254);
        RunTapes y = new RunTapes();
        for (int i = 0; i < 10; i++) {
            y.feed(-1, 0, -1, 0, -1);
        }
        Due.due("tell() of 200", y.tell(), 200);
        Due.due("of KEY 255", y.key(255, 0), 120);
        Due.due("of KEY 0", y.key(0, 0), 80);
    }

    private static void tellOfNone() {
        Due.sentence(4, "NONE, and nothing happens (the TAPE stays): it has none, or there would be more than 300");
        RunTapes x = new RunTapes();
        Due.due("tell() of none", x.tell(), -1);
        Make.feed(x, 9);
        x.tell();
        Due.due("tell() again", x.tell(), -1);
        Due.due("RECORDS", x.count(0), 1);
        Due.due("ACTS", x.count(12), 1);
        x.grow();
        Due.due("tell() when GROWN", x.tell(), -1);
        Due.due("STAGE", x.count(7), 1);
        x.feed(1, 2, 3, 4, 5);
        x.end(0);
        Due.due("tell() behind end(0)", x.tell(), -1);
    }

    private static void tellUpToThreeHundred() {
        Due.sentence(4, "NONE, and nothing happens (the TAPE stays): it has none, or there would be more than 300");
        for (int bytes = 1; bytes <= 21; bytes += 1) {
            RunTapes x = new RunTapes();
            x.drawn(100, 1);
            x.drawn(100, 1);
            x.drawn(90, 1);
            x.feed(0x05050505, 0x05050505, 0x05050505, 0x05050505, 0x05050505);
            x.feed(0x05050505, 0x05050505, 0x05050505, 0x05050505, 0x05050505);
            x.end(bytes);
            x.grow();
            int want = bytes <= 10 ? 290 + bytes : -1;
            Due.due("tell() of " + bytes + " behind 290", x.tell(), want);
            Due.due("RECORDS", x.count(0), want == -1 ? 290 : want);
            Due.due("bytes", x.count(14), want == -1 ? bytes : 0);
            Due.due("STAGE", x.count(7), want == -1 ? 1 : 0);
            Due.due("ACTS", x.count(12), want == -1 ? 4 : 5);
            x.clear();
            Due.due("the TAPE as it stayed", x.tell(), want == -1 ? bytes : -1);
            Due.due("its KEYS", x.key(5, 0), want == -1 ? bytes : 0);
        }
        RunTapes full = Make.full();
        Make.feed(full, 1);
        Due.due("tell() of one behind 300", full.tell(), -1);
        full.undo();
        Due.due("tell() of one behind 200", full.tell(), 201);
    }

    // ---- promise 5

    private static void drawnOfOneToAHundred() {
        Due.sentence(5, "n RECORDS (1 to 100) come behind the others, of each the KEY a DRAW of m (1 to 256): how many RECORDS");
        RunTapes x = new RunTapes();
        Due.due("drawn(1, 1)", x.drawn(1, 1), 1);
        Due.due("drawn(100, 256)", x.drawn(100, 256), 101);
        Due.due("drawn(2, 2)", x.drawn(2, 2), 103);
        Due.due("drawn(99, 255)", x.drawn(99, 255), 202);
        long draw = 0;
        for (int k = 0; k < 202; k++) {
            draw = (draw * 1103515245L + 12345L) % 2147483648L;
            int m = k < 1 ? 1 : k < 101 ? 256 : k < 103 ? 2 : 255;
            Due.due("record(" + k + ", 0)", x.record(k, 0), (int) (draw / 65536 % m));
        }
        Due.due("x", x.count(13), (int) draw);
    }

    private static void drawnOfWrongNumbers() {
        Due.sentence(5, "NONE, and nothing happens, without these, or if there would be more than 300");
        int[][] wrong = {{0, 1}, {-1, 1}, {LOW, 1}, {101, 1}, {102, 256}, {HIGH, 5}, {1, 0}, {1, -1}, {1, LOW}, {1, 257},
            {100, 258}, {1, HIGH}, {0, 0}, {101, 257}, {-5, -5}};
        RunTapes x = new RunTapes();
        x.draws(77);
        x.drawn(3, 9);
        x.grow();
        int[] before = Make.counts(x);
        for (int[] one : wrong) {
            Due.due("drawn(" + one[0] + ", " + one[1] + ")", x.drawn(one[0], one[1]), -1);
            Due.dueAll("counts", Make.counts(x), before);
        }
    }

    private static void drawnUpToThreeHundred() {
        Due.sentence(5, "NONE, and nothing happens, without these, or if there would be more than 300");
        for (int n = 98; n <= 100; n++) {
            RunTapes x = new RunTapes();
            x.drawn(100, 9);
            x.drawn(100, 9);
            x.drawn(1, 9);
            int before = x.count(13);
            int want = n <= 99 ? 201 + n : -1;
            Due.due("drawn(" + n + ", 9) behind 201", x.drawn(n, 9), want);
            Due.due("RECORDS", x.count(0), want == -1 ? 201 : want);
            Due.due("ACTS", x.count(12), want == -1 ? 3 : 4);
            Due.due("x as it was", x.count(13) == before ? 1 : 0, want == -1 ? 1 : 0);
        }
        RunTapes full = Make.full();
        Due.due("drawn(1, 1) behind 300", full.drawn(1, 1), -1);
        Due.due("RECORDS", full.count(0), 300);
    }

    private static void threeHundredAtMost() {
        Due.sentence(0, "RECORDS 0, 1, .. (300 at most)");
        RunTapes x = Make.full();
        Due.due("RECORDS", x.count(0), 300);
        Due.due("record(299, 0) is there", x.record(299, 0) >= 0 ? 1 : 0, 1);
        Due.due("record(300, 0)", x.record(300, 0), -1);
        Make.feed(x, 1);
        Due.due("tell()", x.tell(), -1);
        Due.due("drawn(1, 1)", x.drawn(1, 1), -1);
        Due.due("clear()", x.clear(), 300);
        Due.due("tell()", x.tell(), 1);
    }

    private static void keysFromZero() {
        Due.sentence(0, "each with a KEY (0 to 255)");
        RunTapes x = Make.tell(new RunTapes(), 0, 255);
        Due.due("the lowest", x.record(0, 0), 0);
        Due.due("the highest", x.record(1, 0), 255);
        x.clear();
        x.draws(0);
        x.drawn(100, 256);
        x.drawn(100, 256);
        x.drawn(100, 256);
        for (int k = 0; k < 300; k++) {
            int key = x.record(k, 0);
            Due.due("a KEY that was drawn", key >= 0 && key <= 255 ? 1 : 0, 1);
        }
    }

    // ---- promise 6

    private static void drawsOfAnyNumber() {
        Due.sentence(6, "x becomes a number: what it was");
        RunTapes x = new RunTapes();
        Due.due("draws(1)", x.draws(1), 0);
        Due.due("draws(0)", x.draws(0), 1);
        Due.due("draws(0) once more", x.draws(0), 0);
        Due.due("draws of the highest", x.draws(HIGH), 0);
        Due.due("x", x.count(13), HIGH);
        Due.due("draws(1)", x.draws(HIGH - 1), HIGH);
        Due.due("draws(5)", x.draws(5), HIGH - 1);
    }

    private static void drawsBelowZero() {
        Due.sentence(6, "NONE, and nothing happens, below 0");
        int[] wrong = {-1, -2, LOW, LOW + 1};
        RunTapes x = new RunTapes();
        x.draws(41);
        for (int n : wrong) {
            Due.due("draws(" + n + ")", x.draws(n), -1);
            Due.due("x", x.count(13), 41);
        }
    }

    private static void theRestOfDraws() {
        Due.sentence(0, "x (0 to 2147483647; 0 at first) becomes x * 1103515245 + 12345, of 2147483648 the rest");
        Due.due("at first", new RunTapes().count(13), 0);
        int[] from = {0, 1, 2, 65535, 65536, 1073741823, 1073741824, HIGH - 1, HIGH};
        for (int one : from) {
            RunTapes x = new RunTapes();
            x.draws(one);
            x.drawn(1, 256);
            java.math.BigInteger next = java.math.BigInteger.valueOf(one).multiply(java.math.BigInteger.valueOf(1103515245))
                .add(java.math.BigInteger.valueOf(12345)).mod(java.math.BigInteger.valueOf(2147483648L));
            Due.due("x behind " + one, x.count(13), next.intValueExact());
        }
        Due.sentence(0, "a DRAW of m is x / 65536, of m the rest");
        int[] ms = {1, 2, 3, 255, 256};
        for (int m : ms) {
            RunTapes x = new RunTapes();
            x.draws(HIGH);
            x.drawn(1, m);
            // 12345 - 1103515245 + 2147483648 is 1043980748; by 65536 it is 15929
            Due.due("a DRAW of " + m, x.record(0, 0), 15929 % m);
        }
    }

    // ---- promise 7

    private static void clearOfNoneAndOfAll() {
        Due.sentence(7, "There are no RECORDS: how many there were.");
        RunTapes x = new RunTapes();
        Due.due("clear() of none", x.clear(), 0);
        x.drawn(1, 1);
        Due.due("clear() of one", x.clear(), 1);
        Due.due("RECORDS", x.count(0), 0);
        Due.due("clear() again", x.clear(), 0);
        RunTapes full = Make.full();
        full.feed(1, 2, 3, 4, 5);
        full.settle(0, 9);
        int before = full.count(13);
        Due.due("clear() of 300", full.clear(), 300);
        Due.due("RECORDS", full.count(0), 0);
        Due.due("the TAPE stays", full.count(14), 20);
        Due.due("x stays", full.count(13), before);
        Due.due("ROOM stays", full.count(2), 9);
        Due.due("KEYS", full.keys(0), 0);
        Due.due("INVERSIONS", full.about(0), 0);
        Due.due("drawn(100, 5)", full.drawn(100, 5), 100);
    }

    private static void stageIsZeroThen() {
        Due.sentence(0, "RECORDS that are told, CLEARED, SETTINGS that are told: STAGE is 0 then.");
        for (int stage = 0; stage <= 3; stage++) {
            for (int act = 0; act < 4; act++) {
                RunTapes x = Make.twos(3, 4, 0);
                if (stage > 0) {
                    x.grow();
                }
                if (stage > 1) {
                    x.spread();
                }
                if (stage > 2) {
                    x.all();
                }
                Due.due("STAGE", x.count(7), stage);
                Make.feed(x, 8);
                int answer = act == 0 ? x.tell() : act == 1 ? x.drawn(1, 1) : act == 2 ? x.clear() : x.settle(0, 3);
                Due.due("the act", answer, new int[] {7, 7, 6, 2}[act]);
                Due.due("STAGE behind act " + act, x.count(7), 0);
                Due.due("RUNS", x.count(1), 0);
                Due.due("MOVES", x.count(8), 0);
                Due.due("STEPS", x.count(9), 0);
                Due.due("run(0, -1)", x.run(0, -1), -1);
                Due.due("tape(0, 0)", x.tape(0, 0), -1);
                Due.due("spread()", x.spread(), -1);
            }
        }
    }

    // ---- promise 8

    private static final int[] LOWEST = {2, 3, 0, 0, 0, 0};
    private static final int[] HIGHEST = {16, 6, 2, 1, 1, 1};
    private static final int[] COUNTED = {2, 3, 4, 5, 6, 15};

    private static void everySettingIsTold() {
        Due.sentence(8, "A SETTING is told (what 0: ROOM, 1: TAPES, 2: WAY, 3: DUMMIES, 4: BACK, 5: GROWTH): what it was");
        for (int what = 0; what < 6; what++) {
            RunTapes x = new RunTapes();
            int before = x.count(COUNTED[what]);
            for (int value = LOWEST[what]; value <= HIGHEST[what]; value++) {
                if (value != before) {
                    Due.due("settle(" + what + ", " + value + ")", x.settle(what, value), before);
                    Due.due("settled", x.count(COUNTED[what]), value);
                    before = value;
                }
            }
            Due.due("settle the lowest", x.settle(what, LOWEST[what]), before);
            Due.due("settle the highest", x.settle(what, HIGHEST[what]), LOWEST[what]);
            RunTapes fresh = new RunTapes();
            for (int other = 0; other < 6; other++) {
                if (other != what) {
                    Due.due("the others stay", x.count(COUNTED[other]), fresh.count(COUNTED[other]));
                }
            }
        }
    }

    private static void settledAsItIs() {
        Due.sentence(8, "-2, and nothing happens: it is so");
        for (int what = 0; what < 6; what++) {
            RunTapes x = Make.twos(3, 4, 0);
            x.settle(0, 4);
            x.grow();
            x.spread();
            int[] before = Make.counts(x);
            Due.due("settle(" + what + ") as it is", x.settle(what, x.count(COUNTED[what])), -2);
            Due.dueAll("counts", Make.counts(x), before);
            x.settle(what, HIGHEST[what]);
            Due.due("the highest again", x.settle(what, HIGHEST[what]), -2);
            x.settle(what, LOWEST[what]);
            Due.due("the lowest again", x.settle(what, LOWEST[what]), -2);
        }
    }

    private static void settledOtherwise() {
        Due.sentence(8, "NONE, and nothing happens, for others");
        RunTapes x = Make.spreadTwos(3, 4, 0);
        int[] before = Make.counts(x);
        for (int what = 0; what < 6; what++) {
            int[] wrong = {LOWEST[what] - 1, HIGHEST[what] + 1, -1, -2, LOW, HIGH, 17};
            for (int value : wrong) {
                Due.due("settle(" + what + ", " + value + ")", x.settle(what, value), -1);
            }
        }
        int[] wrongWhat = {-1, 6, 7, LOW, HIGH};
        for (int what : wrongWhat) {
            for (int value = -1; value <= 17; value++) {
                Due.due("settle(" + what + ", " + value + ")", x.settle(what, value), -1);
            }
        }
        Due.dueAll("counts", Make.counts(x), before);
    }

    // ---- promise 26

    private static void keyThatIsThere() {
        Due.sentence(26, "Of a KEY what 0: how many RECORDS, 1: the first of these, 2: the last (-2: there are none).");
        RunTapes x = Make.tell(new RunTapes(), 255, 0, 7, 0, 255, 9, 0);
        Due.due("key(0, 0)", x.key(0, 0), 3);
        Due.due("key(0, 1)", x.key(0, 1), 1);
        Due.due("key(0, 2)", x.key(0, 2), 6);
        Due.due("key(255, 0)", x.key(255, 0), 2);
        Due.due("key(255, 1)", x.key(255, 1), 0);
        Due.due("key(255, 2)", x.key(255, 2), 4);
        Due.due("key(7, 0)", x.key(7, 0), 1);
        Due.due("key(7, 1)", x.key(7, 1), 2);
        Due.due("key(7, 2)", x.key(7, 2), 2);
        RunTapes first = Make.tell(new RunTapes(), 42, 41);
        Due.due("the first RECORD is the last of its KEY", first.key(42, 2), 0);
        Due.due("the last RECORD is the first of its KEY", first.key(41, 1), 1);
        int[] none = {1, 6, 8, 10, 254};
        for (int key : none) {
            Due.due("key(" + key + ", 0)", x.key(key, 0), 0);
            Due.due("key(" + key + ", 1)", x.key(key, 1), -2);
            Due.due("key(" + key + ", 2)", x.key(key, 2), -2);
        }
        x.clear();
        Due.due("without RECORDS", x.key(0, 0), 0);
        Due.due("without RECORDS", x.key(0, 1), -2);
        Due.due("without RECORDS", x.key(0, 2), -2);
        RunTapes same = new RunTapes();
        same.drawn(100, 1);
        same.drawn(100, 1);
        same.drawn(100, 1);
        Due.due("300 of KEY 0", same.key(0, 0), 300);
        Due.due("the last of 300", same.key(0, 2), 299);
    }

    private static void keyOfWrongNumbers() {
        Due.sentence(26, "NONE for others (KEY 0 to 255)");
        RunTapes x = Make.tell(new RunTapes(), 0, 255);
        int[] wrongKeys = {-1, -2, 256, 257, LOW, HIGH};
        for (int key : wrongKeys) {
            for (int what = 0; what < 3; what++) {
                Due.due("key(" + key + ", " + what + ")", x.key(key, what), -1);
            }
        }
        int[] wrongWhats = {-1, -2, 3, LOW, HIGH};
        for (int what : wrongWhats) {
            Due.due("key(0, " + what + ")", x.key(0, what), -1);
            Due.due("key(5, " + what + ")", x.key(5, what), -1);
        }
    }

    // ---- promise 27

    private static void keysUnlike() {
        Due.sentence(27, "Of all KEYS what 0: how many unlike");
        RunTapes x = new RunTapes();
        Due.due("of none", x.keys(0), 0);
        Make.tell(x, 9);
        Due.due("of one", x.keys(0), 1);
        Make.tell(x, 9);
        Due.due("of like ones", x.keys(0), 1);
        Make.tell(x, 8, 10, 9);
        Due.due("of three", x.keys(0), 3);
        x.clear();
        int[] all = new int[256];
        for (int key = 0; key < 256; key++) {
            all[key] = key * 7 % 256;
        }
        Make.tell(x, all);
        Due.due("of all", x.keys(0), 256);
        Make.tell(x, 0, 255);
        Due.due("no more than all", x.keys(0), 256);
    }

    private static void keyMostOften() {
        Due.sentence(27, "1: the KEY that comes most often, of like ones that which came first (NONE without), 2: how often that");
        RunTapes x = new RunTapes();
        Due.due("without", x.keys(1), -1);
        Due.due("how often", x.keys(2), 0);
        Make.tell(x, 255);
        Due.due("of one", x.keys(1), 255);
        Due.due("how often", x.keys(2), 1);
        Make.tell(x, 0);
        Due.due("of two the first", x.keys(1), 255);
        Due.due("how often", x.keys(2), 1);
        Make.tell(x, 0);
        Due.due("twice", x.keys(1), 0);
        Due.due("how often", x.keys(2), 2);
        Make.tell(x, 255);
        Due.due("as often, it came first", x.keys(1), 255);
        Make.tell(x, 100, 100);
        Due.due("three as often", x.keys(1), 255);
        Make.tell(x, 100);
        Due.due("once more", x.keys(1), 100);
        Due.due("how often", x.keys(2), 3);
        x.clear();
        Due.due("CLEARED", x.keys(1), -1);
        Due.due("CLEARED", x.keys(2), 0);
        Make.tell(x, 3, 9, 9, 3);
        Due.due("3 came first", x.keys(1), 3);
        Due.due("how often", x.keys(2), 2);
        x.clear();
        Make.tell(x, 9, 3, 3, 9);
        Due.due("9 came first", x.keys(1), 9);
        x.clear();
        Make.tell(x, 5, 0, 4, 255);
        Due.due("of four that come once", x.keys(1), 5);
    }

    private static void keysOfOthers() {
        Due.sentence(27, "NONE for others.");
        RunTapes x = Make.tell(new RunTapes(), 4, 4);
        int[] wrong = {-1, -2, 3, 4, LOW, HIGH};
        for (int what : wrong) {
            Due.due("keys(" + what + ")", x.keys(what), -1);
        }
    }

    // ---- promise 28

    private static void inversions() {
        Due.sentence(0, "INVERSIONS: twos of RECORDS of which the one told ahead has the greater KEY.");
        RunTapes x = new RunTapes();
        Due.due("of none", x.about(0), 0);
        Make.tell(x, 5);
        Due.due("of one", x.about(0), 0);
        Make.tell(x, 5);
        Due.due("of like ones", x.about(0), 0);
        Make.tell(x, 6);
        Due.due("one above", x.about(0), 0);
        Make.tell(x, 4);
        Due.due("one below", x.about(0), 3);
        x.undo();
        Due.due("UNDONE", x.about(0), 0);
        x.clear();
        int[] falling = new int[256];
        for (int i = 0; i < 256; i++) {
            falling[i] = 255 - i;
        }
        Make.tell(x, falling);
        Due.due("of 256 that fall", x.about(0), 256 * 255 / 2);
    }

    private static void naturalRuns() {
        Due.sentence(28, "1: natural RUNS (rows of which none is below the one ahead, as long as they go on)");
        RunTapes x = new RunTapes();
        Due.due("of none", x.about(1), 0);
        Make.tell(x, 5);
        Due.due("of one", x.about(1), 1);
        Make.tell(x, 5);
        Due.due("of like ones", x.about(1), 1);
        Make.tell(x, 6);
        Due.due("one above", x.about(1), 1);
        Make.tell(x, 5);
        Due.due("one below", x.about(1), 2);
        Make.tell(x, 4);
        Due.due("once more", x.about(1), 3);
        Make.tell(x, 255);
        Due.due("far above", x.about(1), 3);
    }

    private static void inTheMidst() {
        Due.sentence(28, "2: the RECORD in the midst (of n, rising, the n / 2-th, 0 the first; NONE without)");
        RunTapes x = new RunTapes();
        Due.due("without", x.about(2), -1);
        Make.tell(x, 5);
        Due.due("of 1 the 0th", x.about(2), 0);
        Make.tell(x, 4);
        Due.due("of 2 the 1st", x.about(2), 0);
        Make.tell(x, 3);
        Due.due("of 3 the 1st", x.about(2), 1);
        Make.tell(x, 2);
        Due.due("of 4 the 2nd", x.about(2), 1);
        x.clear();
        Make.tell(x, 7, 7, 7);
        Due.due("of like ones", x.about(2), 1);
        x.clear();
        Due.due("CLEARED", x.about(2), -1);
    }

    private static void aboutOthers() {
        Due.sentence(28, "NONE for others.");
        RunTapes x = Make.tell(new RunTapes(), 4, 3);
        int[] wrong = {-1, -2, 3, 4, LOW, HIGH};
        for (int what : wrong) {
            Due.due("about(" + what + ")", x.about(what), -1);
        }
    }

    public static void main(String[] args) {
        aNewObjectHasNoRecords();
        settingsAtFirst();
        feedBringsTwentyBytes();
        feedUpToTwoHundred();
        endKeepsTheFirstBytes();
        endOfWrongNumbers();
        tellTakesAll();
        tellOfNone();
        tellUpToThreeHundred();
        drawnOfOneToAHundred();
        drawnOfWrongNumbers();
        drawnUpToThreeHundred();
        threeHundredAtMost();
        keysFromZero();
        drawsOfAnyNumber();
        drawsBelowZero();
        theRestOfDraws();
        clearOfNoneAndOfAll();
        stageIsZeroThen();
        everySettingIsTold();
        settledAsItIs();
        settledOtherwise();
        keyThatIsThere();
        keyOfWrongNumbers();
        keysUnlike();
        keyMostOften();
        keysOfOthers();
        inversions();
        naturalRuns();
        inTheMidst();
        aboutOthers();
        Due.finish();
    }
}
