import java.util.Arrays;
import java.util.function.Function;
import java.util.function.Supplier;

/**
 * Two ways to come to an object that must be the same for every question and every act that may follow. Each look
 * begins with a new object of either way, so that none has more than some 400 calls behind it.
 */
final class Twins {
    private Twins() {
    }

    static void same(String what, Supplier<RunTapes> one, Supplier<RunTapes> other) {
        compare(what + ": counts and TAPES", one, other, Twins::places);
        compare(what + ": RECORDS and RUNS", one, other, Twins::records);
        compare(what + ": on paper", one, other, Twins::paper);
        compare(what + ": UNDONE", one, other, Twins::undone);
        compare(what + ": the TAPE", one, other, Twins::bytes);
        compare(what + ": SHELVES", one, other, Twins::shelves);
        compare(what + ": going on", one, other, Twins::goingOn);
    }

    private static void compare(String what, Supplier<RunTapes> one, Supplier<RunTapes> other, Function<RunTapes, Row> look) {
        int[] got = look.apply(one.get()).row();
        int[] want = look.apply(other.get()).row();
        Due.due(what, Arrays.equals(got, want) ? 0 : 1 + Math.max(0, Arrays.mismatch(got, want)), 0);
    }

    /** Answers one behind the other. */
    private static final class Row {
        private final int[] all = new int[600];
        private int size;

        private Row add(int... more) {
            for (int one : more) {
                all[size++] = one;
            }
            return this;
        }

        private int[] row() {
            return Arrays.copyOf(all, size);
        }
    }

    private static Row places(RunTapes x) {
        Row row = new Row().add(Make.counts(x));
        for (int t = 0; t < 6; t++) {
            for (int what = 0; what < 4; what++) {
                row.add(x.tape(t, what));
            }
            for (int k = 0; k < 12; k++) {
                for (int what = -2; what < 2; what++) {
                    row.add(x.on(t, k, what));
                }
            }
        }
        return row;
    }

    private static Row records(RunTapes x) {
        Row row = new Row().add(x.count(0), x.count(1));
        for (int k = 0; k < 40; k++) {
            row.add(x.record(k, 0), x.record(k, 1), x.run(k, -2), x.run(k, -1), x.run(k, 0), x.run(k, 1), x.sorted(k));
        }
        return row.add(x.record(299, 0), x.record(299, 1), x.sorted(299));
    }

    private static Row paper(RunTapes x) {
        Row row = new Row().add(x.stands());
        for (int i = 0; i < 6; i++) {
            row.add(x.plan(i), x.least(i), x.depth(i), x.units(i), x.perfect(i, -1), x.perfect(i, 0), x.keys(i), x.about(i));
            row.add(x.planned(i % 3, 4 + i % 2, i / 3), x.key(i, 0), x.key(i, 1), x.forecast(1, i), x.needs(1 + i));
        }
        return row;
    }

    private static Row undone(RunTapes x) {
        Row row = new Row();
        for (int i = 0; i < 9; i++) {
            row.add(x.undo()).add(Make.counts(x)).add(x.tape(0, 0), x.record(0, 0));
        }
        return row;
    }

    private static Row bytes(RunTapes x) {
        x.clear();
        Row row = new Row().add(x.count(14), x.tell());
        for (int k = 0; k < 200; k++) {
            row.add(x.record(k, 0));
        }
        return row;
    }

    private static Row shelves(RunTapes x) {
        Row row = new Row();
        for (int shelf = 0; shelf < 2; shelf++) {
            row.add(x.back(shelf)).add(Make.counts(x)).add(x.tape(0, 0), x.record(0, 0), x.undo());
        }
        return row;
    }

    private static Row goingOn(RunTapes x) {
        Row row = new Row().add(x.step()).add(Make.counts(x)).add(x.phase()).add(Make.counts(x)).add(x.all());
        row.add(Make.counts(x)).add(x.drawn(9, 256)).add(Make.counts(x)).add(x.grow()).add(x.spread());
        return row.add(Make.counts(x)).add(x.all()).add(Make.counts(x)).add(x.undo());
    }
}
