import java.util.ArrayList;
import java.util.Arrays;
import java.util.Collections;
import java.util.HashMap;
import java.util.HashSet;
import java.util.List;
import java.util.Map;
import java.util.PriorityQueue;
import java.util.Random;
import java.util.Set;
import java.util.TreeSet;

/**
 * Long runs of calls, drawn by a seed, on the class and on a slow model of the document that
 * holds every run as a list of records and really merges them; each answer is compared.
 */
public final class ModelTest {
    private static final int RUNS = 400;
    private static final int CALLS = 512;

    // ---------------------------------------------------------------- the model

    /** A run on a tape: its records as they were written, and which grown runs are in it. */
    static final class Stripe {
        List<Integer> recs = new ArrayList<>();
        Set<Integer> of = new TreeSet<>();
        boolean down;

        boolean dummy() {
            return recs.isEmpty();
        }

        Stripe copy() {
            Stripe s = new Stripe();
            s.recs.addAll(recs);
            s.of.addAll(of);
            s.down = down;
            return s;
        }
    }

    /** The tapes of one plan: each a list of which the first element is the one that is taken first. */
    static final class Tapes {
        int way;
        int tapes;
        boolean back;
        List<List<Stripe>> tape = new ArrayList<>();
        int to;
        Set<Integer> givers = new TreeSet<>();
        boolean lowGives = true;
        int moves;
        int steps;
        int phases;
        int turned;
        int dummies;
        int level = -1;
        List<Stripe> lastTaken = new ArrayList<>();
        Stripe lastMade;

        Tapes copy() {
            Tapes c = new Tapes();
            c.way = way;
            c.tapes = tapes;
            c.back = back;
            for (List<Stripe> one : tape) {
                List<Stripe> row = new ArrayList<>();
                for (Stripe s : one) {
                    row.add(s.copy());
                }
                c.tape.add(row);
            }
            c.to = to;
            c.givers.addAll(givers);
            c.lowGives = lowGives;
            c.moves = moves;
            c.steps = steps;
            c.phases = phases;
            c.turned = turned;
            c.dummies = dummies;
            c.level = level;
            return c;
        }

        int left() {
            int sum = 0;
            for (List<Stripe> one : tape) {
                sum += one.size();
            }
            return sum;
        }

        String stand() {
            StringBuilder b = new StringBuilder();
            for (List<Stripe> one : tape) {
                b.append(one.size()).append(',');
            }
            return b.toString();
        }
    }

    static int[] perfect(int way, int k, int level) {
        int[] a = new int[k];
        a[0] = 1;
        for (int l = 0; l < level; l++) {
            int[] b = new int[k];
            for (int i = 0; i < k; i++) {
                if (way == 0) {
                    b[i] = i + 1 < k ? a[0] + a[i + 1] : a[0];
                } else {
                    for (int j = 0; j < k - i; j++) {
                        b[i] += a[j];
                    }
                }
            }
            a = b;
        }
        return a;
    }

    static int sum(int[] a) {
        return Arrays.stream(a).sum();
    }

    static final class Model {
        List<Integer> keys = new ArrayList<>();
        int[] set = {4, 4, 0, 0, 0, 0};
        int stage;
        List<List<Integer>> runs = new ArrayList<>();
        Tapes tapes;
        long x;
        List<Integer> bytes = new ArrayList<>();
        List<Object[]> acts = new ArrayList<>();
        Object[][] shelves = new Object[2][];

        Object[] core() {
            List<List<Integer>> r = new ArrayList<>();
            for (List<Integer> one : runs) {
                r.add(new ArrayList<>(one));
            }
            return new Object[] {new ArrayList<>(keys), set.clone(), stage, r, tapes == null ? null : tapes.copy(), x};
        }

        @SuppressWarnings("unchecked")
        void restore(Object[] c, boolean withX) {
            keys = new ArrayList<>((List<Integer>) c[0]);
            set = ((int[]) c[1]).clone();
            stage = (Integer) c[2];
            runs = new ArrayList<>();
            for (List<Integer> one : (List<List<Integer>>) c[3]) {
                runs.add(new ArrayList<>(one));
            }
            tapes = c[4] == null ? null : ((Tapes) c[4]).copy();
            if (withX) {
                x = (Long) c[5];
            }
        }

        void act() {
            acts.add(core());
            if (acts.size() > 8) {
                acts.remove(0);
            }
        }

        void toTelling() {
            stage = 0;
            runs.clear();
            tapes = null;
        }

        int cmp(int a, int b) {
            int c = Integer.compare(keys.get(a), keys.get(b));
            return c != 0 ? c : Integer.compare(a, b);
        }

        int feed(int... v) {
            if (bytes.size() + 20 > 200) {
                return -1;
            }
            for (int n : v) {
                bytes.add((n >> 24) & 255);
                bytes.add((n >> 16) & 255);
                bytes.add((n >> 8) & 255);
                bytes.add(n & 255);
            }
            return bytes.size();
        }

        int end(int n) {
            if (n < 0 || n > bytes.size()) {
                return -1;
            }
            bytes = new ArrayList<>(bytes.subList(0, n));
            return n;
        }

        int tell() {
            if (bytes.isEmpty() || keys.size() + bytes.size() > 300) {
                return -1;
            }
            act();
            keys.addAll(bytes);
            bytes.clear();
            toTelling();
            return keys.size();
        }

        int drawn(int n, int m) {
            if (n < 1 || n > 100 || m < 1 || m > 256 || keys.size() + n > 300) {
                return -1;
            }
            act();
            for (int i = 0; i < n; i++) {
                x = (x * 1103515245L + 12345L) % 2147483648L;
                keys.add((int) (x / 65536 % m));
            }
            toTelling();
            return keys.size();
        }

        int draws(int v) {
            if (v < 0) {
                return -1;
            }
            int was = (int) x;
            x = v;
            return was;
        }

        int clear() {
            act();
            int was = keys.size();
            keys.clear();
            toTelling();
            return was;
        }

        int settle(int what, int value) {
            int[] lo = {2, 3, 0, 0, 0, 0};
            int[] hi = {16, 6, 2, 1, 1, 1};
            if (what < 0 || what > 5 || value < lo[what] || value > hi[what]) {
                return -1;
            }
            if (set[what] == value) {
                return -2;
            }
            act();
            int was = set[what];
            set[what] = value;
            toTelling();
            return was;
        }

        int grow() {
            if (stage > 0) {
                return -2;
            }
            if (keys.isEmpty()) {
                return -1;
            }
            act();
            List<Integer> here = new ArrayList<>();
            List<Integer> later = new ArrayList<>();
            int next = 0;
            while (next < keys.size() && here.size() < set[0]) {
                here.add(next++);
            }
            while (!here.isEmpty()) {
                boolean falls = set[5] == 1 && runs.size() % 2 == 1;
                List<Integer> run = new ArrayList<>();
                while (!here.isEmpty()) {
                    Integer out = falls ? Collections.max(here, this::cmp) : Collections.min(here, this::cmp);
                    here.remove(out);
                    run.add(out);
                    if (next < keys.size()) {
                        boolean less = cmp(next, out) < 0;
                        (less == falls ? here : later).add(next);
                        next++;
                    }
                }
                runs.add(run);
                here = later;
                later = new ArrayList<>();
            }
            stage = 1;
            return runs.size();
        }

        boolean falls(int run) {
            return set[5] == 1 && run % 2 == 1;
        }

        boolean canPlan() {
            return stage >= 1 && !(set[2] == 1 && set[1] == 3);
        }

        Tapes lay(int way, int tapeCount, boolean back, List<List<Integer>> rows, boolean allRise) {
            Tapes p = new Tapes();
            p.way = way;
            p.tapes = tapeCount;
            p.back = back;
            for (int t = 0; t < tapeCount; t++) {
                p.tape.add(new ArrayList<>());
            }
            List<Stripe> stripes = new ArrayList<>();
            for (int i = 0; i < rows.size(); i++) {
                Stripe s = new Stripe();
                s.recs.addAll(rows.get(i));
                s.of.add(i);
                s.down = !allRise && falls(i);
                stripes.add(s);
            }
            if (way == 1) {
                int h = tapeCount / 2;
                for (int i = 0; i < stripes.size(); i++) {
                    p.tape.get(i % h).add(stripes.get(i));
                }
                p.to = h;
            } else {
                layPerfect(p, stripes);
            }
            if (back) {
                for (List<Stripe> one : p.tape) {
                    Collections.reverse(one);
                }
                for (List<Stripe> one : p.tape) {
                    // dummies ahead of runs
                    List<Stripe> first = new ArrayList<>();
                    for (Stripe s : one) {
                        if (s.dummy()) {
                            first.add(s);
                        }
                    }
                    one.removeAll(first);
                    one.addAll(0, first);
                }
            }
            newPass(p);
            return p;
        }

        void layPerfect(Tapes p, List<Stripe> stripes) {
            int k = p.tapes - 1;
            p.level = 0;
            while (sum(perfect(p.way, k, p.level)) < stripes.size()) {
                p.level++;
            }
            int[] number = perfect(p.way, k, p.level);
            int[] blank = new int[k];
            p.dummies = sum(number) - stripes.size();
            for (int i = 0; i < p.dummies; i++) {
                int best = -1;
                for (int t = 0; t < k; t++) {
                    if (blank[t] == number[t]) {
                        continue;
                    }
                    if (best < 0 || set[3] == 0 && blank[t] < blank[best]) {
                        best = t;
                    }
                }
                blank[best]++;
            }
            for (int t = 0; t < k; t++) {
                for (int i = 0; i < blank[t]; i++) {
                    p.tape.get(t).add(new Stripe());
                }
            }
            for (Stripe s : stripes) {
                int best = 0;
                for (int t = 1; t < k; t++) {
                    if (number[t] - p.tape.get(t).size() > number[best] - p.tape.get(best).size()) {
                        best = t;
                    }
                }
                p.tape.get(best).add(s);
            }
            p.to = p.tapes - 1;
        }

        void newPass(Tapes p) {
            p.givers.clear();
            for (int t = 0; t < p.tapes; t++) {
                if (!p.tape.get(t).isEmpty()) {
                    p.givers.add(t);
                }
            }
        }

        List<Integer> giving(Tapes p) {
            int h = p.tapes / 2;
            List<Integer> g = new ArrayList<>();
            for (int t = 0; t < p.tapes; t++) {
                boolean may = p.way == 0 ? t != p.to : p.way == 1 ? (t < h) == p.lowGives : p.givers.contains(t);
                if (may && !p.tape.get(t).isEmpty()) {
                    g.add(t);
                }
            }
            return g;
        }

        /** Whether the next step writes rising. */
        boolean rising(Tapes p) {
            if (!p.back) {
                return true;
            }
            for (int t : giving(p)) {
                Stripe s = p.tape.get(t).get(0);
                if (!s.dummy()) {
                    return s.down;
                }
            }
            return true;
        }

        /** The records of a run as they come to the step; says too whether it had to be turned. */
        List<Integer> coming(Tapes p, Stripe s, boolean rising, boolean[] turned) {
            List<Integer> c = new ArrayList<>(s.recs);
            if (p.back) {
                Collections.reverse(c);
            }
            boolean comesRising = s.down == p.back;
            turned[0] = !s.dummy() && comesRising != rising;
            if (turned[0]) {
                Collections.reverse(c);
            }
            return c;
        }

        /** Writes one step; which tape each written record came from is noted in order. */
        int step(Tapes p, List<int[]> trace) {
            List<Integer> g = giving(p);
            boolean rising = rising(p);
            Stripe made = new Stripe();
            List<List<Integer>> in = new ArrayList<>();
            p.lastTaken = new ArrayList<>();
            for (int t : g) {
                Stripe s = p.tape.get(t).remove(0);
                boolean[] turned = new boolean[1];
                List<Integer> c = coming(p, s, rising, turned);
                if (turned[0]) {
                    p.turned += c.size();
                }
                in.add(c);
                made.of.addAll(s.of);
                p.lastTaken.add(s);
            }
            int[] at = new int[in.size()];
            while (true) {
                int best = -1;
                for (int i = 0; i < in.size(); i++) {
                    if (at[i] == in.get(i).size()) {
                        continue;
                    }
                    if (best < 0) {
                        best = i;
                        continue;
                    }
                    int c = cmp(in.get(i).get(at[i]), in.get(best).get(at[best]));
                    if (rising ? c < 0 : c > 0) {
                        best = i;
                    }
                }
                if (best < 0) {
                    break;
                }
                made.recs.add(in.get(best).get(at[best]));
                at[best]++;
                trace.add(new int[] {g.get(best), at[best], in.get(best).size()});
            }
            made.down = !made.dummy() && !rising;
            p.lastMade = made;
            List<Stripe> target = p.tape.get(p.to);
            if (p.back) {
                target.add(0, made);
            } else {
                target.add(made);
            }
            p.moves += made.recs.size();
            p.steps++;
            behind(p, g);
            if (p.left() == 1) {
                for (List<Stripe> one : p.tape) {
                    for (Stripe s : one) {
                        if (s.down) {
                            Collections.reverse(s.recs);
                            s.down = false;
                            p.turned += s.recs.size();
                        }
                    }
                }
            }
            return made.recs.size();
        }

        void behind(Tapes p, List<Integer> gave) {
            int h = p.tapes / 2;
            if (p.way == 1) {
                if (giving(p).isEmpty()) {
                    p.phases++;
                    p.lowGives = !p.lowGives;
                    p.to = p.lowGives ? h : 0;
                } else if (p.lowGives) {
                    p.to = p.to + 1 == p.tapes ? h : p.to + 1;
                } else {
                    p.to = p.to + 1 == h ? 0 : p.to + 1;
                }
                return;
            }
            for (int t : gave) {
                if (p.tape.get(t).isEmpty()) {
                    p.phases++;
                    p.to = t;
                    if (p.way == 2) {
                        p.givers.remove(t);
                        if (giving(p).size() < 2) {
                            newPass(p);
                        }
                    }
                    return;
                }
            }
        }

        int spread() {
            if (stage >= 2) {
                return -2;
            }
            if (!canPlan()) {
                return -1;
            }
            act();
            tapes = lay(set[2], set[1], set[4] == 1, runs, false);
            stage = tapes.left() == 1 ? 3 : 2;
            return tapes.dummies;
        }

        /** kind 0: one step, 1: a phase, 2: all. */
        int steps(int kind) {
            if (stage == 3) {
                return -2;
            }
            if (stage != 2) {
                return -1;
            }
            act();
            int phase = tapes.phases;
            int n = 0;
            int moved = 0;
            do {
                moved = step(tapes, new ArrayList<>());
                n++;
                if (tapes.left() == 1) {
                    stage = 3;
                }
            } while (stage == 2 && (kind == 2 || kind == 1 && tapes.phases == phase));
            return kind == 0 ? moved : n;
        }

        int record(int k, int what) {
            if (k < 0 || k >= keys.size()) {
                return -1;
            }
            if (what == 0) {
                return keys.get(k);
            }
            if (what == 1) {
                for (int r = 0; r < runs.size(); r++) {
                    if (runs.get(r).contains(k)) {
                        return r;
                    }
                }
            }
            return -1;
        }

        int run(int k, int what) {
            if (k < 0 || k >= runs.size() || what < -2) {
                return -1;
            }
            List<Integer> r = runs.get(k);
            if (what == -2) {
                return falls(k) ? 1 : 0;
            }
            return what == -1 ? r.size() : what < r.size() ? r.get(what) : -3;
        }

        int tape(int t, int what) {
            if (stage < 2 || t < 0 || t >= set[1] || what < 0 || what > 3) {
                return -1;
            }
            List<Stripe> one = tapes.tape.get(t);
            if (what == 0) {
                return one.size();
            }
            if (what == 3) {
                return tapes.to == t ? 1 : 0;
            }
            int dummies = 0;
            int recs = 0;
            for (Stripe s : one) {
                dummies += s.dummy() ? 1 : 0;
                recs += s.recs.size();
            }
            return what == 1 ? dummies : recs;
        }

        int on(int t, int k, int what) {
            if (stage < 2 || t < 0 || t >= set[1] || what < -2 || k < 0 || k >= tapes.tape.get(t).size()) {
                return -1;
            }
            Stripe s = tapes.tape.get(t).get(k);
            if (what == -2) {
                return s.down ? 1 : 0;
            }
            return what == -1 ? s.recs.size() : what < s.recs.size() ? s.recs.get(what) : -3;
        }

        int sorted(int k) {
            if (k < 0 || k >= keys.size()) {
                return -1;
            }
            if (stage < 3) {
                return -2;
            }
            for (List<Stripe> one : tapes.tape) {
                if (!one.isEmpty()) {
                    return one.get(0).recs.get(k);
                }
            }
            return -99;
        }

        int perfectNumber(int level, int t) {
            if (level < 0 || level > 8 || t < -1 || t >= set[1] - 1 || set[2] == 1) {
                return -1;
            }
            int[] a = perfect(set[2], set[1] - 1, level);
            return t == -1 ? sum(a) : a[t];
        }

        Tapes finished(Tapes p) {
            while (p.left() > 1) {
                step(p, new ArrayList<>());
            }
            return p;
        }

        int plan(int what) {
            if (what < 0 || what > 5 || !canPlan()) {
                return -1;
            }
            Tapes p = finished(lay(set[2], set[1], set[4] == 1, runs, false));
            return new int[] {p.moves, p.steps, p.phases, p.turned, p.dummies, p.level}[what];
        }

        int planned(int way, int tapeCount, int back) {
            if (stage < 1 || way < 0 || way > 2 || tapeCount < 3 || tapeCount > 6 || back < 0 || back > 1
                    || way == 1 && tapeCount == 3) {
                return -1;
            }
            return finished(lay(way, tapeCount, back == 1, runs, false)).moves;
        }

        int least(int k) {
            if (k < 2 || k > 5 || stage < 1) {
                return -1;
            }
            List<Integer> w = new ArrayList<>();
            for (List<Integer> r : runs) {
                w.add(r.size());
            }
            if (w.size() <= 6) {
                Collections.sort(w);
                return everyOrder(w, k, new HashMap<>());
            }
            PriorityQueue<Integer> q = new PriorityQueue<>(w);
            while ((q.size() - 1) % (k - 1) != 0) {
                q.add(0);
            }
            int moves = 0;
            while (q.size() > 1) {
                int made = 0;
                for (int i = 0; i < k; i++) {
                    made += q.remove();
                }
                moves += made;
                q.add(made);
            }
            return moves;
        }

        int everyOrder(List<Integer> w, int k, Map<List<Integer>, Integer> known) {
            if (w.size() == 1) {
                return 0;
            }
            Integer had = known.get(w);
            if (had != null) {
                return had;
            }
            int best = Integer.MAX_VALUE;
            for (int mask = 1; mask < 1 << w.size(); mask++) {
                int bits = Integer.bitCount(mask);
                if (bits < 2 || bits > k) {
                    continue;
                }
                List<Integer> rest = new ArrayList<>();
                int made = 0;
                for (int i = 0; i < w.size(); i++) {
                    if ((mask >> i & 1) == 1) {
                        made += w.get(i);
                    } else {
                        rest.add(w.get(i));
                    }
                }
                rest.add(made);
                Collections.sort(rest);
                best = Math.min(best, made + everyOrder(rest, k, known));
            }
            known.put(w, best);
            return best;
        }

        int depth(int k) {
            if (k < 0 || k >= runs.size() || !canPlan()) {
                return -1;
            }
            Tapes p = lay(set[2], set[1], set[4] == 1, runs, false);
            int n = 0;
            while (p.left() > 1) {
                step(p, new ArrayList<>());
                n += p.lastMade.of.contains(k) ? 1 : 0;
            }
            return n;
        }

        int units(int level) {
            if (level < 0 || level > 5 || set[2] == 1) {
                return -1;
            }
            int n = sum(perfect(set[2], set[1] - 1, level));
            List<List<Integer>> rows = new ArrayList<>();
            Model units = new Model();
            units.set = set.clone();
            for (int i = 0; i < n; i++) {
                rows.add(List.of(i));
                units.keys.add(0);
            }
            return units.finished(units.lay(set[2], set[1], set[4] == 1, rows, true)).moves;
        }

        int stands() {
            if (!canPlan()) {
                return -1;
            }
            Tapes p = lay(set[2], set[1], set[4] == 1, runs, false);
            Set<String> seen = new HashSet<>();
            seen.add(p.stand());
            while (p.left() > 1) {
                step(p, new ArrayList<>());
                seen.add(p.stand());
            }
            return seen.size();
        }

        int key(int key, int what) {
            if (key < 0 || key > 255 || what < 0 || what > 2) {
                return -1;
            }
            if (what == 0) {
                return Collections.frequency(keys, key);
            }
            int at = what == 1 ? keys.indexOf(key) : keys.lastIndexOf(key);
            return at < 0 ? -2 : at;
        }

        int keys(int what) {
            if (what == 0) {
                return new HashSet<>(keys).size();
            }
            int best = -1;
            int often = 0;
            for (int key : keys) {
                if (Collections.frequency(keys, key) > often) {
                    often = Collections.frequency(keys, key);
                    best = key;
                }
            }
            return what == 1 ? best : what == 2 ? often : -1;
        }

        int about(int what) {
            int n = 0;
            if (what == 0) {
                for (int i = 0; i < keys.size(); i++) {
                    for (int j = i + 1; j < keys.size(); j++) {
                        n += keys.get(i) > keys.get(j) ? 1 : 0;
                    }
                }
                return n;
            }
            if (what == 1) {
                int before = 1000;
                for (int key : keys) {
                    n += key < before ? 1 : 0;
                    before = key;
                }
                return n;
            }
            if (what == 2 && !keys.isEmpty()) {
                List<Integer> order = new ArrayList<>();
                for (int i = 0; i < keys.size(); i++) {
                    order.add(i);
                }
                order.sort(this::cmp);
                return order.get(keys.size() / 2);
            }
            return -1;
        }

        int forecast(int block, int k) {
            if (block < 1 || block > 16 || k < -1 || stage != 2) {
                return -1;
            }
            List<int[]> trace = new ArrayList<>();
            step(tapes.copy(), trace);
            List<Integer> fetched = new ArrayList<>();
            for (int[] one : trace) {
                boolean lastOfBlock = one[1] % block == 0;
                if (lastOfBlock && one[1] < one[2]) {
                    fetched.add(one[0]);
                }
            }
            return k == -1 ? fetched.size() : k < fetched.size() ? fetched.get(k) : -2;
        }

        int needs(int block) {
            if (block < 1 || block > 16 || stage < 2) {
                return -1;
            }
            Tapes p = tapes.copy();
            int n = 0;
            while (p.left() > 1) {
                step(p, new ArrayList<>());
                for (Stripe s : p.lastTaken) {
                    n += (int) Math.ceil(s.recs.size() / (double) block);
                }
            }
            return n;
        }

        int undo() {
            if (acts.isEmpty()) {
                return -1;
            }
            restore(acts.remove(acts.size() - 1), true);
            return acts.size();
        }

        int keep(int shelf) {
            if (shelf < 0 || shelf > 1) {
                return -1;
            }
            shelves[shelf] = core();
            return keys.size();
        }

        int back(int shelf) {
            if (shelf < 0 || shelf > 1) {
                return -1;
            }
            if (shelves[shelf] == null) {
                return -2;
            }
            restore(shelves[shelf], false);
            acts.clear();
            return keys.size();
        }

        int count(int what) {
            Tapes p = stage >= 2 ? tapes : new Tapes();
            int[] all = {keys.size(), runs.size(), set[0], set[1], set[2], set[3], set[4], stage, p.moves, p.steps,
                p.phases, p.turned, acts.size(), (int) x, bytes.size(), set[5]};
            return what < 0 || what >= all.length ? -1 : all[what];
        }
    }

    // ---------------------------------------------------------------- the comparison

    private static int wrong;
    private final Random random;
    private final RunTapes real = new RunTapes();
    private final Model model = new Model();
    private final StringBuilder calls = new StringBuilder();
    private boolean broken;

    private ModelTest(long seed) {
        random = new Random(seed);
    }

    private int upTo(int n) {
        return random.nextInt(n);
    }

    /** Mostly from low to high, at times just outside or far away. */
    private int near(int low, int high) {
        int dice = upTo(60);
        if (dice == 0) {
            return low - 1 - upTo(2);
        }
        if (dice == 1) {
            return high + 1 + upTo(2);
        }
        if (dice == 2) {
            return upTo(2) == 0 ? Integer.MIN_VALUE : Integer.MAX_VALUE;
        }
        return low + upTo(high - low + 1);
    }

    private void same(String call, int got, int want) {
        if (!broken) {
            calls.append(call).append(" -> ").append(want).append('\n');
        }
        if (got != want && !broken) {
            broken = true;
            wrong++;
            System.out.println(calls + "the last one answered " + got);
        }
    }

    private void change() {
        switch (upTo(22)) {
            case 0:
            case 1: {
                int[] v = random.ints(5).toArray();
                if (upTo(2) == 0) {
                    for (int i = 0; i < 5; i++) {
                        v[i] &= 0x03030303;
                    }
                }
                same("feed" + Arrays.toString(v), real.feed(v[0], v[1], v[2], v[3], v[4]), model.feed(v));
                break;
            }
            case 2: {
                int n = near(0, Math.max(0, model.bytes.size()));
                same("end " + n, real.end(n), model.end(n));
                break;
            }
            case 3:
                same("tell", real.tell(), model.tell());
                break;
            case 4:
            case 5: {
                int n = near(1, upTo(3) == 0 ? 100 : 30);
                int m = near(1, upTo(2) == 0 ? 256 : 12);
                same("drawn " + n + " " + m, real.drawn(n, m), model.drawn(n, m));
                break;
            }
            case 6: {
                int v = upTo(3) == 0 ? random.nextInt() : near(0, 100);
                same("draws " + v, real.draws(v), model.draws(v));
                break;
            }
            case 7:
                if (upTo(5) == 0) {
                    same("clear", real.clear(), model.clear());
                }
                break;
            case 8: {
                int what = near(0, 5);
                int value = what == 0 ? near(2, 16) : what == 1 ? near(3, 6) : what == 2 ? near(0, 2) : near(0, 1);
                same("settle " + what + " " + value, real.settle(what, value), model.settle(what, value));
                break;
            }
            case 9:
            case 10:
            case 11:
                same("grow", real.grow(), model.grow());
                break;
            case 12:
            case 13:
            case 14:
                same("spread", real.spread(), model.spread());
                break;
            case 15:
            case 16:
                same("step", real.step(), model.steps(0));
                break;
            case 17:
                same("phase", real.phase(), model.steps(1));
                break;
            case 18:
                if (upTo(3) == 0) {
                    same("all", real.all(), model.steps(2));
                }
                break;
            case 19:
                same("undo", real.undo(), model.undo());
                break;
            case 20: {
                int shelf = near(0, 1);
                same("keep " + shelf, real.keep(shelf), model.keep(shelf));
                break;
            }
            default: {
                if (upTo(4) == 0) {
                    int shelf = near(0, 1);
                    same("back " + shelf, real.back(shelf), model.back(shelf));
                }
            }
        }
    }

    private void ask() {
        int n = model.keys.size();
        int a = near(0, 5);
        switch (upTo(20)) {
            case 0: {
                int k = near(0, n);
                int what = near(0, 1);
                same("record " + k + " " + what, real.record(k, what), model.record(k, what));
                break;
            }
            case 1: {
                int k = near(0, Math.max(1, model.runs.size()));
                int what = near(-3, 12);
                same("run " + k + " " + what, real.run(k, what), model.run(k, what));
                break;
            }
            case 2: {
                int what = near(0, 3);
                same("tape " + a + " " + what, real.tape(a, what), model.tape(a, what));
                break;
            }
            case 3:
            case 4: {
                int k = near(0, 4);
                int what = near(-3, 25);
                same("on " + a + " " + k + " " + what, real.on(a, k, what), model.on(a, k, what));
                break;
            }
            case 5: {
                int k = near(0, n);
                same("sorted " + k, real.sorted(k), model.sorted(k));
                break;
            }
            case 6: {
                int level = near(0, 8);
                int t = near(-1, 5);
                same("perfect " + level + " " + t, real.perfect(level, t), model.perfectNumber(level, t));
                break;
            }
            case 7:
                same("plan " + a, real.plan(a), model.plan(a));
                break;
            case 8: {
                int way = near(0, 2);
                int tapes = near(3, 6);
                int back = near(0, 1);
                same("planned " + way + " " + tapes + " " + back, real.planned(way, tapes, back),
                    model.planned(way, tapes, back));
                break;
            }
            case 9:
                same("least " + a, real.least(a), model.least(a));
                break;
            case 10: {
                int k = near(0, Math.max(1, model.runs.size()));
                same("depth " + k, real.depth(k), model.depth(k));
                break;
            }
            case 11:
                if (upTo(6) == 0) {
                    same("units " + a, real.units(a), model.units(a));
                }
                break;
            case 12:
                same("stands", real.stands(), model.stands());
                break;
            case 13: {
                int key = n > 0 && upTo(2) == 0 ? model.keys.get(upTo(n)) : near(0, 255);
                int what = near(0, 2);
                same("key " + key + " " + what, real.key(key, what), model.key(key, what));
                break;
            }
            case 14: {
                int what = near(0, 2);
                same("keys " + what, real.keys(what), model.keys(what));
                break;
            }
            case 15: {
                int what = near(0, 2);
                same("about " + what, real.about(what), model.about(what));
                break;
            }
            case 16:
            case 17: {
                int block = upTo(2) == 0 ? near(1, 3) : near(1, 16);
                int k = near(-1, 6);
                same("forecast " + block + " " + k, real.forecast(block, k), model.forecast(block, k));
                break;
            }
            case 18: {
                int block = near(1, 16);
                same("needs " + block, real.needs(block), model.needs(block));
                break;
            }
            default: {
                int what = near(0, 15);
                same("count " + what, real.count(what), model.count(what));
            }
        }
    }

    /** Everything that can be read without changing anything, at the end of a run. */
    private void readAll() {
        for (int what = 0; what < 16; what++) {
            same("count " + what, real.count(what), model.count(what));
        }
        for (int k = 0; k < model.keys.size(); k++) {
            same("record " + k, real.record(k, 1), model.record(k, 1));
            same("sorted " + k, real.sorted(k), model.sorted(k));
        }
        for (int k = 0; k < model.runs.size(); k++) {
            for (int i = -2; i <= model.runs.get(k).size(); i++) {
                same("run " + k + " " + i, real.run(k, i), model.run(k, i));
            }
        }
        for (int t = 0; t < 6; t++) {
            for (int what = 0; what < 4; what++) {
                same("tape " + t + " " + what, real.tape(t, what), model.tape(t, what));
            }
            int runs = Math.max(0, model.tape(t, 0));
            for (int k = 0; k < runs; k++) {
                int length = model.on(t, k, -1);
                for (int i = -2; i <= length; i++) {
                    same("on " + t + " " + k + " " + i, real.on(t, k, i), model.on(t, k, i));
                }
            }
        }
    }

    private void drive() {
        for (int i = 0; i < CALLS && !broken; i++) {
            if (upTo(2) == 0) {
                change();
            } else {
                ask();
            }
        }
        if (!broken) {
            readAll();
        }
    }

    /** One way of sorting from the first record to the last step, looked at whole behind each step. */
    private void sortWhole(int[] settings, int records, int unlikeKeys) {
        for (int what = 0; what < settings.length; what++) {
            same("settle", real.settle(what, settings[what]), model.settle(what, settings[what]));
        }
        for (int told = 0; told < records;) {
            int n = Math.min(100, records - told);
            same("drawn", real.drawn(n, unlikeKeys), model.drawn(n, unlikeKeys));
            told += n;
        }
        same("grow", real.grow(), model.grow());
        for (int what = 0; what < 6; what++) {
            same("plan " + what, real.plan(what), model.plan(what));
            same("least " + what, real.least(what), model.least(what));
        }
        for (int run = 0; run < model.runs.size(); run += 1 + model.runs.size() / 8) {
            same("depth " + run, real.depth(run), model.depth(run));
        }
        same("stands", real.stands(), model.stands());
        same("spread", real.spread(), model.spread());
        for (int i = 0; i < 1000 && model.stage == 2; i++) {
            for (int t = 0; t < settings[1]; t++) {
                same("tape runs " + t, real.tape(t, 0), model.tape(t, 0));
                same("tape dummies " + t, real.tape(t, 1), model.tape(t, 1));
                same("tape records " + t, real.tape(t, 2), model.tape(t, 2));
                same("tape to " + t, real.tape(t, 3), model.tape(t, 3));
                same("on down " + t, real.on(t, 0, -2), model.on(t, 0, -2));
                same("on first " + t, real.on(t, 0, 0), model.on(t, 0, 0));
            }
            int fetched = model.forecast(2, -1);
            same("forecast", real.forecast(2, -1), fetched);
            same("forecast last", real.forecast(2, fetched - 1), model.forecast(2, fetched - 1));
            same("step " + i, real.step(), model.steps(0));
            same("turned", real.count(11), model.count(11));
            same("phases", real.count(10), model.count(10));
        }
        readAll();
    }

    private static void sweep() {
        int[] sizes = {1, 2, 3, 7, 12, 25, 60, 300};
        for (int i = 0; i < 3 * 4 * 2 * 2 * 2 && wrong == 0; i++) {
            int[] settings = {2, 3 + i % 4, i / 4 % 3, i / 12 % 2, i / 24 % 2, i / 48 % 2};
            for (int size : sizes) {
                settings[0] = 2 + (i + size) % 3;
                new ModelTest(i).sortWhole(settings, size, 1 + size * (1 + i % 3) % 256);
            }
        }
    }

    public static void main(String[] args) {
        sweep();
        int runs = args.length > 0 ? Integer.parseInt(args[0]) : RUNS;
        int seed = args.length > 1 ? Integer.parseInt(args[1]) : 1;
        for (int i = 0; i < runs && wrong == 0; i++) {
            new ModelTest(seed * 1000003L + i).drive();
        }
        System.out.println(wrong == 0 ? "the class and the model answer alike" : "the class and the model differ");
        if (wrong != 0) {
            System.exit(1);
        }
    }
}
