import java.math.BigInteger;
import java.util.Arrays;
import java.util.Random;

/**
 * Long runs of calls, drawn from fixed seeds, on the class and on a model of it that is written from
 * the document with numbers of any length and by other ways: all x, all paths, all amounts to begin with.
 */
public final class ModelTest {
    private static final int RUNS = 4000;
    private static final int CALLS = 512;

    private static int wrong = 0;

    public static void main(String[] args) {
        for (int run = 0; run < RUNS && wrong < 20; run++) {
            drawnRun(run);
        }
        for (int run = 0; run < 300 && wrong < 20; run++) {
            wideRun(run);
        }
        System.out.println(wrong == 0 ? "all answers are as the model's" : wrong + " answers are not as the model's");
        if (wrong != 0) {
            System.exit(1);
        }
    }

    private static void drawnRun(int seed) {
        Random random = new Random(seed);
        WaterTwice real = new WaterTwice();
        Model model = new Model();
        // Some runs are of small numbers, so that designs are often well or just not.
        boolean small = seed % 2 == 0;
        for (int i = 0; i < CALLS; i++) {
            int name = random.nextInt(21);
            if (i < 30 && random.nextInt(3) == 0) {
                name = random.nextBoolean() ? 0 : 15;
            }
            call(seed, real, model, name, Draw.arguments(random, name, small, model.steps));
        }
    }

    /** Five steps with the widest fractions: great spans and waters that share few divisors. */
    private static void wideRun(int seed) {
        Random random = new Random(-1 - seed);
        WaterTwice real = new WaterTwice();
        Model model = new Model();
        for (int i = 0; i < 5; i++) {
            int in = random.nextInt(4);
            call(seed, real, model, 0, 900 + random.nextInt(101), in, 500 - random.nextInt(20));
        }
        int[] order = {0, 1, 2, 3, 4};
        for (int i = 4; i > 0; i--) {
            int j = random.nextInt(i + 1);
            int was = order[i];
            order[i] = order[j];
            order[j] = was;
        }
        for (int i = 0; i < 5; i++) {
            call(seed, real, model, 6, order[i], 90 + random.nextInt(11));
            for (int j = i + 1; j < 5; j++) {
                call(seed, real, model, 7, order[i], order[j], 1 + random.nextInt(24 + 12 * i));
            }
        }
        for (int i = 0; i < 3; i++) {
            call(seed, real, model, 5, i);
        }
        for (int i = 0; i < 10; i++) {
            call(seed, real, model, 10, i / 2, i % 2);
            int x = 1 + random.nextInt(500);
            call(seed, real, model, 4, x, 0);
            call(seed, real, model, 4, x, 1);
        }
        call(seed, real, model, 9);
    }

    private static void call(int seed, WaterTwice real, Model model, int name, int... a) {
        long want = model.answer(name, a);
        long got = answer(real, name, a);
        if (got != want) {
            wrong++;
            System.out.println("run " + seed + ": call " + name + Arrays.toString(a) + " answered " + got
                + ", the model's is " + want);
        }
    }

    private static long answer(WaterTwice x, int name, int[] a) {
        switch (name) {
            case 0: return x.step(a[0], a[1], a[2]);
            case 1: return x.change(a[0], a[1], a[2]);
            case 2: return x.set(a[0], a[1]);
            case 3: return x.limit(a[0], a[1]);
            case 4: return x.dirt(a[0], a[1]);
            case 5: return x.least(a[0]);
            case 6: return x.fresh(a[0], a[1]);
            case 7: return x.pipe(a[0], a[1], a[2]);
            case 8: return x.water(a[0], a[1]);
            case 9: return x.fails();
            case 10: return x.at(a[0], a[1]);
            case 11: return x.hit(a[0], a[1], a[2]);
            case 12: return x.steady(a[0], a[1], a[2], a[3], a[4]);
            case 13: return x.store(a[0], a[1], a[2]);
            case 14: return x.room(a[0]);
            case 15: return x.meter(a[0]);
            case 16: return x.read(a[0], a[1]);
            case 17: return x.gap(a[0]);
            case 18: return x.mended(a[0], a[1]);
            case 19: return x.count(a[0]);
            default: return x.trace();
        }
    }

    /** Draws arguments: mostly as told, at times at an edge, just past it, or far from it. */
    private static final class Draw {
        private static final int[] WILD = {Integer.MIN_VALUE, Integer.MIN_VALUE + 1, -9, -2, 1 << 16, 1 << 30,
            Integer.MAX_VALUE - 1, Integer.MAX_VALUE};

        static int[] arguments(Random r, int name, boolean small, int steps) {
            int step = Math.max(0, steps - 1);
            int pipe = small ? 4 : 100;
            int[][] bounds = {
                {1, small ? 30 : 1000, 0, small ? 40 : 400, 1, small ? 60 : 500},
                {0, step, 0, 1, 0, r.nextInt(3) == 0 ? 1000 : 9},
                {0, 2, 0, r.nextInt(3) == 0 ? 100 : 2},
                {0, 2, 0, step},
                {1, small ? 60 : 500, 0, 1},
                {0, 2},
                {0, step, r.nextInt(4) == 0 ? 0 : 1, pipe},
                {0, step, 0, step, 0, r.nextInt(2) == 0 ? 0 : pipe},
                {0, step, 0, 1},
                {},
                {0, step, 0, 1},
                {0, step, 0, 1000, 0, step},
                {1, small ? 30 : 1000, 0, small ? 1000 : 1000000, 0, small ? 9 : 1000, 0, small ? 1 : 900, 0, 1},
                {0, 23, 0, 1, 0, 500},
                {0, 1},
                {-1, 1},
                {0, 7, 0, 100000},
                {0, 3},
                {0, 7, 0, 1},
                {0, 6},
                {}};
            int[] b = bounds[name];
            int[] a = new int[b.length / 2];
            for (int i = 0; i < a.length; i++) {
                a[i] = within(r, b[2 * i], b[2 * i + 1]);
            }
            if (name == 7 && small && r.nextInt(3) > 0) {
                // Most pipes go to a later step, so that rings are not everywhere.
                Arrays.sort(a, 0, 2);
            }
            if (name == 16 && r.nextInt(12) == 0) {
                a[1] = -9;
            }
            return a;
        }

        private static int within(Random r, int low, int high) {
            switch (r.nextInt(80)) {
                case 0: return low - 1;
                case 1: return high + 1;
                case 2: return low;
                case 3: return high;
                case 4: return WILD[r.nextInt(WILD.length)];
                case 5: return r.nextInt();
                default: return low + r.nextInt(Math.max(1, high - low + 1));
            }
        }
    }

    /** A fraction of any length. */
    private static final class Ratio {
        final BigInteger upper;
        final BigInteger lower;

        Ratio(BigInteger upper, BigInteger lower) {
            BigInteger g = upper.gcd(lower);
            this.upper = upper.divide(g);
            this.lower = lower.divide(g);
        }

        static Ratio of(long upper, long lower) {
            return new Ratio(BigInteger.valueOf(upper), BigInteger.valueOf(lower));
        }

        Ratio plus(Ratio o) {
            return new Ratio(upper.multiply(o.lower).add(o.upper.multiply(lower)), lower.multiply(o.lower));
        }

        Ratio times(Ratio o) {
            return new Ratio(upper.multiply(o.upper), lower.multiply(o.lower));
        }

        int compare(Ratio o) {
            return upper.multiply(o.lower).compareTo(o.upper.multiply(lower));
        }

        long part(int part) {
            return (part == 0 ? upper : lower).longValueExact();
        }
    }

    private static final class Model {
        int steps;
        int[] load = new int[5], in = new int[5], out = new int[5], lag = new int[5], fresh = new int[5];
        int[][] pipe = new int[5][5];
        int[] set = {10, 0, 0};
        int[][] store = new int[2][24];
        int meters;
        int[] sign = new int[8];
        int[] reading = new int[8];
        long trace;

        long answer(int name, int[] a) {
            switch (name) {
                case 0: return step(a[0], a[1], a[2]);
                case 1: return change(a[0], a[1], a[2]);
                case 2: return set(a[0], a[1]);
                case 3: return limit(a[0], a[1]);
                case 4: return outside(a[0], 1, 500) || outside(a[1], 0, 1) ? -1 : dirt(a[0]).part(a[1]);
                case 5: return least(a[0]);
                case 6: return noStep(a[0]) || outside(a[1], 0, 100) ? -1 : swap(fresh, a[0], a[1]);
                case 7: return noStep(a[0]) || noStep(a[1]) || a[0] == a[1] || outside(a[2], 0, 100) ? -1
                    : swap(pipe[a[0]], a[1], a[2]);
                case 8: return noStep(a[0]) || outside(a[1], 0, 1) ? -1 : a[1] == 0 ? water(a[0]) : from(a[0]);
                case 9: return fails();
                case 10: return at(a[0], a[1]);
                case 11: return noStep(a[0]) || noStep(a[2]) || outside(a[1], 0, 1000) ? -1 : hit(a[0], a[1], a[2]);
                case 12: return steady(a[0], a[1], a[2], a[3], a[4]);
                case 13: return outside(a[0], 0, 23) || outside(a[1], 0, 1) || outside(a[2], 0, 500) ? -1
                    : swap(store[a[1]], a[0], a[2]);
                case 14: return room(a[0]);
                case 15: return meter(a[0]);
                case 16: return outside(a[0], 0, meters - 1) || (outside(a[1], 0, 100000) && a[1] != -9) ? -1
                    : swap(reading, a[0], a[1]);
                case 17: return gap(a[0]);
                case 18: return mended(a[0], a[1]);
                case 19: return count(a[0]);
                default: return trace;
            }
        }

        static boolean outside(int v, int low, int high) {
            return v < low || v > high;
        }

        boolean noStep(int s) {
            return outside(s, 0, steps - 1);
        }

        static int swap(int[] row, int i, int v) {
            int was = row[i];
            row[i] = v;
            return was;
        }

        int step(int l, int i, int o) {
            if (outside(l, 1, 1000) || outside(i, 0, 400) || outside(o, 1, 500) || o <= i) {
                return -1;
            }
            if (steps == 5) {
                return -3;
            }
            load[steps] = l;
            in[steps] = i;
            out[steps] = o;
            lag[steps] = 1;
            return steps++;
        }

        int change(int s, int what, int v) {
            if (noStep(s) || outside(what, 0, 1) || outside(v, what == 0 ? 1 : 0, what == 0 ? 1000 : 9)) {
                return -1;
            }
            return swap(what == 0 ? load : lag, s, v);
        }

        int set(int what, int v) {
            if (outside(what, 0, 2) || outside(v, 0, what == 0 ? 100 : what == 1 ? 40 : 2)) {
                return -1;
            }
            return swap(set, what, v);
        }

        int limit(int kind, int s) {
            if (outside(kind, 0, 2) || noStep(s)) {
                return -1;
            }
            for (int k = kind, brings = 1; k >= 0; k--, brings *= 10) {
                trace += brings;
            }
            return limitBy(kind, s);
        }

        int limitBy(int kind, int s) {
            if (kind == 0) {
                return out[s];
            }
            int up = limitBy(kind - 1, s);
            return Math.max(in[s] + 1, up - (kind == 1 ? set[0] : 2 * set[1]));
        }

        Ratio dirt(int x) {
            Ratio sum = Ratio.of(0, 1);
            for (int s = 0; s < steps; s++) {
                sum = sum.plus(Ratio.of((long) load[s] * Math.max(0, Math.min(x, out[s]) - in[s]), out[s] - in[s]));
            }
            return sum;
        }

        long least(int what) {
            if (outside(what, 0, 2)) {
                return -1;
            }
            Ratio best = Ratio.of(0, 1);
            int pinch = -9;
            for (int x = 1; x <= 500; x++) {
                boolean edge = false;
                for (int s = 0; s < steps; s++) {
                    edge |= x == in[s] || x == out[s];
                }
                if (edge) {
                    Ratio of = dirt(x).times(Ratio.of(1, x));
                    if (of.compare(best) > 0) {
                        best = of;
                        pinch = x;
                    }
                }
            }
            return what == 2 ? pinch : best.part(what);
        }

        int water(int s) {
            int sum = fresh[s];
            for (int r = 0; r < 5; r++) {
                sum += pipe[r][s];
            }
            return sum;
        }

        int from(int s) {
            return Arrays.stream(pipe[s]).sum();
        }

        /** One is in a ring if it can be reached, against the pipes, from a way that is as long as five pipes. */
        boolean endlessBehind(int s, int depth) {
            if (depth == 5) {
                return true;
            }
            for (int r = 0; r < steps; r++) {
                if (pipe[r][s] > 0 && endlessBehind(r, depth + 1)) {
                    return true;
                }
            }
            return false;
        }

        Ratio coming(int s) {
            Ratio sum = Ratio.of(0, 1);
            for (int r = 0; r < steps; r++) {
                if (pipe[r][s] > 0) {
                    sum = sum.plus(ending(r).times(Ratio.of(pipe[r][s], 1)));
                }
            }
            return sum.times(Ratio.of(1, water(s)));
        }

        Ratio ending(int s) {
            return coming(s).plus(Ratio.of(load[s], water(s)));
        }

        int fails() {
            for (int law = 1; law <= 5; law++) {
                for (int s = 0; s < steps; s++) {
                    if (breaks(law, s)) {
                        return 10 * law + s;
                    }
                }
            }
            return 0;
        }

        boolean breaks(int law, int s) {
            switch (law) {
                case 1: return water(s) == 0;
                case 2: return from(s) > water(s);
                case 3: return endlessBehind(s, 0);
                case 4: return coming(s).compare(Ratio.of(in[s], 1)) > 0;
                default: return ending(s).compare(Ratio.of(limitBy(set[2], s), 1)) > 0;
            }
        }

        long at(int s, int part) {
            if (noStep(s) || outside(part, 0, 1)) {
                return -1;
            }
            int flaw = fails();
            return flaw > 0 && flaw < 40 ? -2 : ending(s).part(part);
        }

        /** The least over all ways, back from s, that meet no step twice. */
        int hit(int from, int h, int s) {
            int lags = lags(from, s, 0);
            return lags == Integer.MAX_VALUE ? -9 : h + lags;
        }

        int lags(int from, int s, int met) {
            if (from == s) {
                return 0;
            }
            int best = Integer.MAX_VALUE;
            for (int r = 0; r < steps; r++) {
                if (pipe[r][s] > 0 && (met >> r & 1) == 0) {
                    int behind = lags(from, r, met | 1 << s);
                    if (behind != Integer.MAX_VALUE) {
                        best = Math.min(best, behind + lag[s]);
                    }
                }
            }
            return best;
        }

        int steady(int v, int d, int l, int b, int what) {
            if (outside(v, 1, 1000) || outside(d, 0, 1000000) || outside(l, 0, 1000) || outside(b, 0, v)
                || outside(what, 0, 1)) {
                return -1;
            }
            long[] behind = new long[5002];
            behind[0] = d;
            for (int h = 1; h <= 5001; h++) {
                long full = behind[h - 1] + l;
                behind[h] = full + Math.floorDiv(-full * b, v);
            }
            for (int h = 1; h <= 5000; h++) {
                if (behind[h] == behind[h + 1]) {
                    return what == 0 ? h : (int) behind[h];
                }
            }
            return -9;
        }

        int room(int what) {
            if (outside(what, 0, 1)) {
                return -1;
            }
            for (int begun = 0; begun <= 12000; begun++) {
                int held = begun;
                int most = begun;
                boolean well = true;
                for (int h = 0; h < 24 && well; h++) {
                    held += store[0][h];
                    most = Math.max(most, held);
                    held -= store[1][h];
                    well = held >= 0;
                }
                if (well) {
                    return what == 0 ? begun : most;
                }
            }
            return Integer.MIN_VALUE;
        }

        int meter(int s) {
            if (s != 1 && s != -1) {
                return -1;
            }
            if (meters == 8) {
                return -3;
            }
            sign[meters] = s;
            reading[meters] = -9;
            return meters++;
        }

        long gap(int what) {
            long sum = 0;
            int missing = 0;
            int one = -9;
            for (int m = 0; m < meters; m++) {
                if (reading[m] == -9) {
                    missing++;
                    one = m;
                } else {
                    sum += (long) sign[m] * reading[m];
                }
            }
            switch (what) {
                case 0: return sum;
                case 1: return missing;
                case 2: return missing == 1 ? one : -9;
                case 3: return missing == 1 ? -sum / sign[one] : -1000000000000L;
                default: return -1000000000000L;
            }
        }

        long mended(int m, int part) {
            if (outside(m, 0, meters - 1) || outside(part, 0, 1)) {
                return -1000000000000L;
            }
            if (gap(1) != 0) {
                return -999999999999L;
            }
            return Ratio.of(reading[m], 1).plus(Ratio.of(-sign[m] * gap(0), meters)).part(part);
        }

        int count(int what) {
            int pipes = 0;
            for (int s = 0; s < 5; s++) {
                pipes += fresh[s] != 0 ? 1 : 0;
                for (int t = 0; t < 5; t++) {
                    pipes += pipe[s][t] != 0 ? 1 : 0;
                }
            }
            int[] counts = {steps, Arrays.stream(fresh).sum(), pipes, meters, set[0], set[1], set[2]};
            return outside(what, 0, 6) ? -1 : counts[what];
        }
    }
}
