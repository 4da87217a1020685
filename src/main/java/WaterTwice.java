/**
 * Water used again in a works: steps and the least fresh water, a design of pipes, an upset,
 * a ring basin, a store by hours, and meters that close their sum.
 *
 * <p>All rows are made in the constructor: no call makes an object.
 */
public final class WaterTwice {
    public static final int BAD = -1, STATE = -2, FULL = -3, NONE = -9;
    public static final long NO = -1000000000000L;

    private static final int MOST_STEPS = 5;
    private static final int MOST_LOAD = 1000;
    private static final int MOST_IN = 400;
    private static final int MOST_OUT = 500;
    private static final int MOST_LAG = 9;
    private static final int MOST_PIPE = 100;
    private static final int MOST_UPSET_HOUR = 1000;
    private static final int MOST_STORED = 500;
    private static final int MOST_READ = 100000;

    private final Steps steps = new Steps();
    private final Limits limits = new Limits(steps);
    private final Design design = new Design(steps);
    private final Store hours = new Store();
    private final Meters meters = new Meters();
    private final Fraction answer = new Fraction();
    private long traced;

    public WaterTwice() {
    }

    // ---- steps

    public int step(int load, int in, int out) {
        if (!within(load, 1, MOST_LOAD) || !within(in, 0, MOST_IN)) {
            return BAD;
        }
        if (!within(out, in + 1, MOST_OUT)) {
            return BAD;
        }
        return steps.append(load, in, out);
    }

    public int change(int step, int what, int v) {
        if (!steps.has(step)) {
            return BAD;
        }
        if (what == 0 && within(v, 1, MOST_LOAD)) {
            return replace(steps.load, step, v);
        }
        if (what == 1 && within(v, 0, MOST_LAG)) {
            return replace(steps.lag, step, v);
        }
        return BAD;
    }

    public int set(int what, int v) {
        if (!Limits.isSetting(what) || !within(v, 0, Limits.MOST[what])) {
            return BAD;
        }
        return replace(limits.settings, what, v);
    }

    public int limit(int kind, int step) {
        if (!within(kind, Limits.PLAIN, Limits.OLD) || !steps.has(step)) {
            return BAD;
        }
        traced += Limits.tracesOf(kind);
        return limits.by(kind, step);
    }

    public long dirt(int x, int part) {
        if (!within(x, 1, MOST_OUT) || !isPart(part)) {
            return BAD;
        }
        steps.tellDirtBelow(x, answer);
        return answer.part(part);
    }

    public long least(int what) {
        if (!within(what, 0, 2)) {
            return BAD;
        }
        int pinch = steps.pinch();
        if (what == 2) {
            return pinch;
        }
        steps.tellLeastFresh(pinch, answer);
        return answer.part(what);
    }

    // ---- pipes

    public int fresh(int step, int v) {
        if (!steps.has(step) || !within(v, 0, MOST_PIPE)) {
            return BAD;
        }
        return replace(design.fresh, step, v);
    }

    public int pipe(int from, int to, int v) {
        if (!steps.has(from) || !steps.has(to) || from == to || !within(v, 0, MOST_PIPE)) {
            return BAD;
        }
        return replace(design.pipes[from], to, v);
    }

    public int water(int step, int what) {
        if (!steps.has(step) || !within(what, 0, 1)) {
            return BAD;
        }
        return what == 0 ? design.comingTo(step) : design.goingFrom(step);
    }

    public int fails() {
        int flaw = design.flawOfFlow();
        return flaw != 0 ? flaw : design.flawOfDirt(limits);
    }

    public long at(int step, int part) {
        if (!steps.has(step) || !isPart(part)) {
            return BAD;
        }
        if (design.flawOfFlow() != 0) {
            return STATE;
        }
        design.spreadDirt();
        return design.ends[step].part(part);
    }

    public int hit(int from, int h, int step) {
        if (!steps.has(from) || !within(h, 0, MOST_UPSET_HOUR) || !steps.has(step)) {
            return BAD;
        }
        design.spreadUpset(from, h);
        return design.hitIn[step];
    }

    // ---- a basin, a store

    public int steady(int v, int d, int l, int b, int what) {
        if (!within(v, 1, Basin.MOST_TONS) || !within(d, 0, Basin.MOST_DIRT)) {
            return BAD;
        }
        if (!within(l, 0, MOST_LOAD) || !within(b, 0, v) || !within(what, 0, 1)) {
            return BAD;
        }
        return Basin.tellSteady(v, d, l, b, what == 0);
    }

    public int store(int hour, int what, int v) {
        if (!within(hour, 0, Store.HOURS - 1) || !within(what, 0, 1) || !within(v, 0, MOST_STORED)) {
            return BAD;
        }
        return replace(what == 0 ? hours.in : hours.out, hour, v);
    }

    public int room(int what) {
        if (!within(what, 0, 1)) {
            return BAD;
        }
        int begun = hours.leastBegun();
        return what == 0 ? begun : hours.mostHeld(begun);
    }

    // ---- meters

    public int meter(int sign) {
        if (sign != 1 && sign != -1) {
            return BAD;
        }
        return meters.append(sign);
    }

    public int read(int meter, int v) {
        if (!meters.has(meter) || (v != NONE && !within(v, 0, MOST_READ))) {
            return BAD;
        }
        return replace(meters.reading, meter, v);
    }

    public long gap(int what) {
        switch (what) {
            case 0:
                return meters.sum();
            case 1:
                return meters.missing();
            case 2:
                return meters.told();
            case 3:
                return meters.toldAs();
            default:
                return NO;
        }
    }

    public long mended(int meter, int part) {
        if (!meters.has(meter) || !isPart(part)) {
            return NO;
        }
        if (meters.missing() > 0) {
            return NO + 1;
        }
        meters.tellMended(meter, answer);
        return answer.part(part);
    }

    public int count(int what) {
        switch (what) {
            case 0:
                return steps.size;
            case 1:
                return design.allFresh();
            case 2:
                return design.pipesInUse();
            case 3:
                return meters.size;
            case 4:
                return limits.settings[Limits.MARGIN];
            case 5:
                return limits.settings[Limits.YEARS];
            case 6:
                return limits.settings[Limits.AT_HAND];
            default:
                return BAD;
        }
    }

    public long trace() {
        return traced;
    }

    private static boolean within(int v, int low, int high) {
        return v >= low && v <= high;
    }

    private static boolean isPart(int part) {
        return within(part, 0, 1);
    }

    private static int replace(int[] row, int place, int v) {
        if (place < 0 || place >= row.length) {
            return BAD;
        }
        int was = row[place];
        row[place] = v;
        return was;
    }

    /** A fraction in least form, its lower part above 0; it is used again for answer after answer. */
    private static final class Fraction {
        // Euclid's way ends after some 92 rounds for any two longs.
        private static final int MOST_ROUNDS = 100;

        private long upper;
        private long lower = 1;

        void become(long newUpper, long newLower) {
            long divisor = commonDivisor(Math.abs(newUpper), newLower);
            upper = newUpper / divisor;
            lower = newLower / divisor;
        }

        /** Goes over the least common lower part, since a plain product of two may pass a long. */
        void addTimes(Fraction other, int times) {
            long divisor = commonDivisor(lower, other.lower);
            long widen = other.lower / divisor;
            long otherWiden = lower / divisor;
            become(upper * widen + other.upper * times * otherWiden, lower * widen);
        }

        void addWhole(int whole) {
            upper += whole * lower;
        }

        void divideBy(int whole) {
            if (whole > 0) {
                become(upper, lower * whole);
            }
        }

        boolean isAbove(int whole) {
            return upper > whole * lower;
        }

        long part(int part) {
            return part == 0 ? upper : lower;
        }

        private static long commonDivisor(long a, long b) {
            long big = a;
            long small = b;
            for (int round = 0; round < MOST_ROUNDS && small != 0; round++) {
                long rest = big % small;
                big = small;
                small = rest;
            }
            return big > 0 ? big : 1;
        }
    }

    /** The steps with what they may take; tells dirt and the least fresh water from them. */
    private static final class Steps {
        private final int[] load = new int[MOST_STEPS];
        private final int[] in = new int[MOST_STEPS];
        private final int[] out = new int[MOST_STEPS];
        private final int[] lag = new int[MOST_STEPS];
        private int size;

        boolean has(int step) {
            return step >= 0 && step < size;
        }

        int append(int newLoad, int newIn, int newOut) {
            int step = size;
            if (step >= MOST_STEPS) {
                return FULL;
            }
            load[step] = newLoad;
            in[step] = newIn;
            out[step] = newOut;
            lag[step] = 1;
            size++;
            return step;
        }

        void tellDirtBelow(int x, Fraction told) {
            long lower = commonLower();
            told.become(dirtBelow(x, lower), lower);
        }

        void tellLeastFresh(int pinch, Fraction told) {
            tellDirtBelow(pinch, told);
            told.divideBy(pinch);
        }

        int pinch() {
            long lower = commonLower();
            int best = NONE;
            for (int step = 0; step < size; step++) {
                best = better(best, in[step], lower);
                best = better(best, out[step], lower);
            }
            return best;
        }

        /** Of two x the one with more dirt by x, of the same the lesser one; an x of 0 is none. */
        private int better(int best, int x, long lower) {
            if (x < 1) {
                return best;
            }
            if (best < 1) {
                return x;
            }
            long bestDirt = dirtBelow(best, lower);
            long dirt = dirtBelow(x, lower);
            // Wholes and rests are held against one another, since cross products may pass a long.
            int order = Long.compare(dirt / x, bestDirt / best);
            if (order == 0) {
                order = Long.compare(dirt % x * best, bestDirt % best * x);
            }
            return order > 0 || (order == 0 && x < best) ? x : best;
        }

        /** The product of all spans: at most 500 to the 5th, so that 5000 times it is still a long. */
        private long commonLower() {
            long lower = 1;
            for (int step = 0; step < size; step++) {
                lower *= span(step);
            }
            return lower;
        }

        private long dirtBelow(int x, long lower) {
            long dirt = 0;
            for (int step = 0; step < size; step++) {
                long reach = Math.max(0, Math.min(x, out[step]) - in[step]);
                dirt += load[step] * reach * (lower / span(step));
            }
            return dirt;
        }

        private int span(int step) {
            return Math.max(1, out[step] - in[step]);
        }
    }

    /** The kinds of limits over one another, and what is set for them. */
    private static final class Limits {
        private static final int PLAIN = 0, SAFE = 1, OLD = 2;
        private static final int MARGIN = 0, YEARS = 1, AT_HAND = 2;
        private static final int[] MOST = {100, 40, 2};
        private static final int FIRST_MARGIN = 10;
        private static final int LOST_A_YEAR = 2;

        private final Steps steps;
        private final int[] settings = new int[3];

        Limits(Steps steps) {
            this.steps = steps;
            settings[MARGIN] = FIRST_MARGIN;
        }

        static boolean isSetting(int what) {
            return what >= 0 && what < MOST.length;
        }

        /** What a question for a kind brings to the trace, with all kinds that stand over it. */
        static int tracesOf(int kind) {
            switch (kind) {
                case PLAIN:
                    return 1;
                case SAFE:
                    return 10 + 1;
                default:
                    return 100 + 10 + 1;
            }
        }

        int atHand() {
            return settings[AT_HAND];
        }

        int by(int kind, int step) {
            int least = steps.in[step] + 1;
            int limit = steps.out[step];
            if (kind >= SAFE) {
                limit = Math.max(limit - settings[MARGIN], least);
            }
            if (kind >= OLD) {
                limit = Math.max(limit - LOST_A_YEAR * settings[YEARS], least);
            }
            return limit;
        }
    }

    /** The pipes, held against all laws; dirt and upsets go along them. */
    private static final class Design {
        private static final int DRY = 10, OVERDRAWN = 20, IN_A_RING = 30, DIRTY_IN = 40, DIRTY_OUT = 50;

        private final Steps steps;
        private final int[] fresh = new int[MOST_STEPS];
        private final int[][] pipes = new int[MOST_STEPS][MOST_STEPS];
        private final boolean[] taken = new boolean[MOST_STEPS];
        private final int[] order = new int[MOST_STEPS];
        private final Fraction[] comes = new Fraction[MOST_STEPS];
        private final Fraction[] ends = new Fraction[MOST_STEPS];
        private final int[] hitIn = new int[MOST_STEPS];

        Design(Steps steps) {
            this.steps = steps;
            for (int step = 0; step < MOST_STEPS; step++) {
                comes[step] = new Fraction();
                ends[step] = new Fraction();
            }
        }

        int comingTo(int step) {
            int sum = fresh[step];
            for (int from = 0; from < steps.size; from++) {
                sum += pipes[from][step];
            }
            return sum;
        }

        int goingFrom(int step) {
            int sum = 0;
            for (int to = 0; to < steps.size; to++) {
                sum += pipes[step][to];
            }
            return sum;
        }

        int allFresh() {
            int sum = 0;
            for (int step = 0; step < steps.size; step++) {
                sum += fresh[step];
            }
            return sum;
        }

        int pipesInUse() {
            int used = 0;
            for (int step = 0; step < steps.size; step++) {
                used += fresh[step] > 0 ? 1 : 0;
                for (int to = 0; to < steps.size; to++) {
                    used += pipes[step][to] > 0 ? 1 : 0;
                }
            }
            return used;
        }

        /** By which of the laws 1, 2, 3 the design fails; where it answers 0, each step has its place in the order. */
        int flawOfFlow() {
            for (int step = 0; step < steps.size; step++) {
                if (comingTo(step) == 0) {
                    return DRY + step;
                }
            }
            for (int step = 0; step < steps.size; step++) {
                if (goingFrom(step) > comingTo(step)) {
                    return OVERDRAWN + step;
                }
            }
            takeInOrder();
            for (int step = 0; step < steps.size; step++) {
                if (!taken[step]) {
                    return IN_A_RING + step;
                }
            }
            return 0;
        }

        /** By which of the laws 4, 5 the design fails; to be asked only where flawOfFlow() is 0. */
        int flawOfDirt(Limits limits) {
            spreadDirt();
            for (int step = 0; step < steps.size; step++) {
                if (comes[step].isAbove(steps.in[step])) {
                    return DIRTY_IN + step;
                }
            }
            for (int step = 0; step < steps.size; step++) {
                if (ends[step].isAbove(limits.by(limits.atHand(), step))) {
                    return DIRTY_OUT + step;
                }
            }
            return 0;
        }

        /** To be asked only where flawOfFlow() is 0: by laws 2 and 3 no fraction here passes a long. */
        void spreadDirt() {
            for (int place = 0; place < steps.size; place++) {
                soil(order[place]);
            }
        }

        private void soil(int step) {
            Fraction coming = comes[step];
            coming.become(0, 1);
            for (int from = 0; from < steps.size; from++) {
                if (pipes[from][step] > 0) {
                    coming.addTimes(ends[from], pipes[from][step]);
                }
            }
            int water = comingTo(step);
            Fraction ending = ends[step];
            ending.become(coming.upper, coming.lower);
            ending.addWhole(steps.load[step]);
            ending.divideBy(water);
            coming.divideBy(water);
        }

        private void takeInOrder() {
            for (int step = 0; step < MOST_STEPS; step++) {
                taken[step] = false;
            }
            int place = 0;
            for (int round = 0; round < steps.size; round++) {
                for (int step = 0; step < steps.size; step++) {
                    if (!taken[step] && place < order.length && hasOnlyOfTaken(step)) {
                        taken[step] = true;
                        order[place] = step;
                        place++;
                    }
                }
            }
        }

        private boolean hasOnlyOfTaken(int step) {
            for (int from = 0; from < steps.size; from++) {
                if (pipes[from][step] > 0 && !taken[from]) {
                    return false;
                }
            }
            return true;
        }

        /** As many rounds as steps are enough: an upset's earliest way meets no step twice. */
        void spreadUpset(int from, int hour) {
            for (int step = 0; step < MOST_STEPS; step++) {
                hitIn[step] = NONE;
            }
            hitIn[from] = hour;
            for (int round = 0; round < steps.size; round++) {
                for (int step = 0; step < steps.size; step++) {
                    if (step != from) {
                        hitIn[step] = hitBehindOthers(step);
                    }
                }
            }
        }

        private int hitBehindOthers(int step) {
            int first = NONE;
            for (int from = 0; from < steps.size; from++) {
                if (pipes[from][step] > 0 && hitIn[from] != NONE && (first == NONE || hitIn[from] < first)) {
                    first = hitIn[from];
                }
            }
            return first == NONE ? NONE : first + steps.lag[step];
        }
    }

    /** A ring basin, hour by hour. */
    private static final class Basin {
        private static final int MOST_TONS = 1000;
        private static final int MOST_DIRT = 1000000;
        private static final int MOST_HOURS = 5000;

        static int tellSteady(int tons, int dirtAtFirst, int load, int off, boolean asHour) {
            long dirt = behindAnHour(dirtAtFirst, tons, load, off);
            for (int hour = 1; hour <= MOST_HOURS; hour++) {
                long next = behindAnHour(dirt, tons, load, off);
                if (next == dirt) {
                    return asHour ? hour : (int) dirt;
                }
                dirt = next;
            }
            return NONE;
        }

        private static long behindAnHour(long dirt, int tons, int load, int off) {
            long soiled = dirt + load;
            return tons < 1 ? soiled : soiled - (soiled * off + tons - 1) / tons;
        }
    }

    /** The store, by hours; what goes in does so ahead of what goes out. */
    private static final class Store {
        private static final int HOURS = 24;

        private final int[] in = new int[HOURS];
        private final int[] out = new int[HOURS];

        int leastBegun() {
            int held = 0;
            int lowest = 0;
            for (int hour = 0; hour < HOURS; hour++) {
                held += in[hour] - out[hour];
                lowest = Math.min(lowest, held);
            }
            return -lowest;
        }

        int mostHeld(int begun) {
            int held = begun;
            int most = begun;
            for (int hour = 0; hour < HOURS; hour++) {
                held += in[hour];
                most = Math.max(most, held);
                held -= out[hour];
            }
            return most;
        }
    }

    /** The meters of what comes and goes; a reading of NONE is a missing one. */
    private static final class Meters {
        private static final int MOST = 8;

        private final int[] sign = new int[MOST];
        private final int[] reading = new int[MOST];
        private int size;

        boolean has(int meter) {
            return meter >= 0 && meter < size;
        }

        int append(int newSign) {
            int meter = size;
            if (meter >= MOST) {
                return FULL;
            }
            sign[meter] = newSign;
            reading[meter] = NONE;
            size++;
            return meter;
        }

        long sum() {
            long sum = 0;
            for (int meter = 0; meter < size; meter++) {
                if (reading[meter] != NONE) {
                    sum += sign[meter] * reading[meter];
                }
            }
            return sum;
        }

        int missing() {
            int missing = 0;
            for (int meter = 0; meter < size; meter++) {
                missing += reading[meter] == NONE ? 1 : 0;
            }
            return missing;
        }

        int told() {
            if (missing() != 1) {
                return NONE;
            }
            for (int meter = 0; meter < size; meter++) {
                if (reading[meter] == NONE) {
                    return meter;
                }
            }
            return NONE;
        }

        long toldAs() {
            int meter = told();
            return meter == NONE ? NO : -sign[meter] * sum();
        }

        void tellMended(int meter, Fraction told) {
            told.become((long) reading[meter] * size - sign[meter] * sum(), size);
        }
    }
}
