import java.math.BigInteger;
import java.util.function.IntToLongFunction;

/**
 * The edges that the document names: each sentence has a test of its own, told by the promise's number
 * and the sentence's words. What a refused call leaves as it was is in RefusedTest.
 */
public final class BoundaryTest {
    private static final int BAD = -1, STATE = -2, FULL = -3, NONE = -9;
    private static final long NO = -1000000000000L;
    private static final int MOST_STEPS = 5, MOST_METERS = 8, HOURS = 24;

    private static String sentence = "";
    private static int wrong = 0;

    private static void due(String call, long got, long want) {
        if (got != want) {
            wrong++;
            System.out.println(sentence + ": " + call + " answered " + got + ", due is " + want);
        }
    }

    /** Just the numbers low .. high are taken; each call is on an object of its own. */
    private static void range(String words, int low, int high, IntToLongFunction call, long refusal) {
        sentence = words;
        int[] taken = {low, low + (high > low ? 1 : 0), high - (high > low ? 1 : 0), high};
        for (int v : taken) {
            if (call.applyAsLong(v) == refusal) {
                due("with " + v, refusal, 0);
            }
        }
        // The last ones would be taken if a number were cut to a byte or a short, or wrapped around.
        int[] refused = {low - 1, high + 1, Integer.MIN_VALUE, Integer.MIN_VALUE + 1, Integer.MAX_VALUE,
            Integer.MAX_VALUE - 1, low + (1 << 21), high - (1 << 21), low + (1 << 31)};
        for (int v : refused) {
            due("with " + v, call.applyAsLong(v), refusal);
        }
    }

    private static void range(String words, int low, int high, IntToLongFunction call) {
        range(words, low, high, call, BAD);
    }

    /** An object with so many steps of load 1, IN 0 and OUT 500. */
    private static WaterTwice steps(int many) {
        WaterTwice x = new WaterTwice();
        for (int i = 0; i < many; i++) {
            x.step(1, 0, 500);
        }
        return x;
    }

    /** As steps(), each with fresh water. */
    private static WaterTwice wet(int many, int tons) {
        WaterTwice x = steps(many);
        for (int i = 0; i < many; i++) {
            x.fresh(i, tons);
        }
        return x;
    }

    private static WaterTwice meters(int... readings) {
        WaterTwice x = new WaterTwice();
        for (int i = 0; i < readings.length; i++) {
            x.meter(i % 2 == 0 ? 1 : -1);
            x.read(i, readings[i]);
        }
        return x;
    }

    public static void main(String[] args) {
        NewObject.all();
        Steps.all();
        Limits.all();
        Dirt.all();
        Pipes.all();
        Laws.all();
        Ends.all();
        Upset.all();
        Basin.all();
        Store.all();
        Meters.all();
        Counts.all();
        System.out.println(wrong == 0 ? "all edges are as due" : wrong + " answers at edges are not as due");
        if (wrong != 0) {
            System.exit(1);
        }
    }

    /** Promise 1. */
    private static final class NewObject {
        static void all() {
            noSteps();
            noMeters();
            emptyStore();
            firstSettings();
            constants();
        }

        private static void noSteps() {
            sentence = "1: No STEPS";
            WaterTwice x = new WaterTwice();
            due("count(0)", x.count(0), 0);
            due("change(0, 0, 1)", x.change(0, 0, 1), BAD);
            due("limit(0, 0)", x.limit(0, 0), BAD);
            due("fresh(0, 0)", x.fresh(0, 0), BAD);
            due("pipe(0, 1, 0)", x.pipe(0, 1, 0), BAD);
            due("water(0, 0)", x.water(0, 0), BAD);
            due("at(0, 0)", x.at(0, 0), BAD);
            due("hit(0, 0, 0)", x.hit(0, 0, 0), BAD);
        }

        private static void noMeters() {
            sentence = "1: no METERS";
            WaterTwice x = new WaterTwice();
            due("count(3)", x.count(3), 0);
            due("read(0, 0)", x.read(0, 0), BAD);
            due("read(0, NONE)", x.read(0, NONE), BAD);
            due("mended(0, 0)", x.mended(0, 0), NO);
        }

        private static void emptyStore() {
            sentence = "1: an empty STORE";
            WaterTwice x = new WaterTwice();
            due("room(0)", x.room(0), 0);
            due("room(1)", x.room(1), 0);
            for (int hour = 0; hour < HOURS; hour++) {
                due("in of " + hour, x.store(hour, 0, 1), 0);
                due("out of " + hour, x.store(hour, 1, 1), 0);
            }
        }

        private static void firstSettings() {
            sentence = "1: at first MARGIN 10, YEARS 0, PLAIN at hand";
            WaterTwice x = new WaterTwice();
            due("count(4)", x.count(4), 10);
            due("count(5)", x.count(5), 0);
            due("count(6)", x.count(6), 0);
            due("set(0, 0)", x.set(0, 0), 10);
            due("set(1, 1)", x.set(1, 1), 0);
            due("set(2, 1)", x.set(2, 1), 0);
            due("trace()", x.trace(), 0);
        }

        private static void constants() {
            sentence = "the constants";
            due("BAD", WaterTwice.BAD, BAD);
            due("STATE", WaterTwice.STATE, STATE);
            due("FULL", WaterTwice.FULL, FULL);
            due("NONE", WaterTwice.NONE, NONE);
            due("NO", WaterTwice.NO, NO);
        }
    }

    /** Promises 2, 3 and 4. */
    private static final class Steps {
        static void all() {
            range("2: LOAD (1 .. 1000)", 1, 1000, v -> new WaterTwice().step(v, 0, 500));
            range("2: IN (0 .. 400)", 0, 400, v -> new WaterTwice().step(1, v, 500));
            range("2: OUT (1 .. 500)", 1, 500, v -> new WaterTwice().step(1, 0, v));
            range("2: OUT above IN, of the greatest IN", 401, 500, v -> new WaterTwice().step(1, 400, v));
            outAboveIn();
            fiveAtMost();
            range("3: LOAD becomes 1 .. 1000", 1, 1000, v -> steps(1).change(0, 0, v));
            range("3: LAG becomes 0 .. 9", 0, 9, v -> steps(1).change(0, 1, v));
            range("3: what = 0, 1", 0, 1, v -> steps(1).change(0, v, 1));
            range("3: of a STEP, of five", 0, 4, v -> steps(5).change(v, 0, 1));
            range("3: of a STEP, of one", 0, 0, v -> steps(1).change(v, 1, 1));
            whatItWas();
            range("4: THE MARGIN (0 .. 100)", 0, 100, v -> new WaterTwice().set(0, v));
            range("4: YEARS (0 .. 40)", 0, 40, v -> new WaterTwice().set(1, v));
            range("4: the KIND at hand 0, 1, 2", 0, 2, v -> new WaterTwice().set(2, v));
            range("4: what = 0, 1, 2", 0, 2, v -> new WaterTwice().set(v, 0));
            settingsApart();
        }

        private static void outAboveIn() {
            sentence = "2: OUT above IN";
            for (int in : new int[] {0, 1, 200, 399, 400}) {
                due("as IN " + in, new WaterTwice().step(1, in, in), BAD);
                due("below IN " + in, new WaterTwice().step(1, in, in - 1), BAD);
                WaterTwice x = new WaterTwice();
                due("one above IN " + in, x.step(1, in, in + 1), 0);
                due("it is OUT", x.limit(0, 0), in + 1);
            }
        }

        private static void fiveAtMost() {
            sentence = "2: STEPS (5 at most)";
            WaterTwice x = new WaterTwice();
            for (int i = 0; i < MOST_STEPS; i++) {
                due("step " + i, x.step(10 + i, i, 100 + i), i);
                due("count", x.count(0), i + 1);
            }
            due("a sixth", x.step(1, 0, 1), FULL);
            due("a seventh", x.step(1000, 400, 500), FULL);
            due("count", x.count(0), MOST_STEPS);
            due("there is no sixth", x.limit(0, 5), BAD);
            for (int i = 0; i < MOST_STEPS; i++) {
                due("OUT of " + i, x.limit(0, i), 100 + i);
                due("LOAD of " + i, x.change(i, 0, 1), 10 + i);
            }
            sentence = "2: BAD ahead of FULL";
            due("load", x.step(0, 0, 1), BAD);
            due("in", x.step(1, -1, 1), BAD);
            due("out", x.step(1, 0, 501), BAD);
            due("out as in", x.step(1, 7, 7), BAD);
        }

        private static void whatItWas() {
            sentence = "3: LAG 1 at first; what it was";
            WaterTwice x = steps(5);
            for (int i = 0; i < MOST_STEPS; i++) {
                due("LAG at first", x.change(i, 1, 9), 1);
                due("LAG then", x.change(i, 1, 0), 9);
                due("LAG then", x.change(i, 1, 0), 0);
                due("LOAD at first", x.change(i, 0, 1000), 1);
                due("LOAD then", x.change(i, 0, 1), 1000);
            }
            sentence = "3: a number of the one is not as told for the other";
            due("LOAD 0", x.change(0, 0, 0), BAD);
            due("LAG 0", x.change(0, 1, 0), 0);
            due("LOAD 10", x.change(0, 0, 10), 1);
            due("LAG 10", x.change(0, 1, 10), BAD);
        }

        private static void settingsApart() {
            sentence = "4: each has bounds of its own; what it was";
            WaterTwice x = new WaterTwice();
            due("MARGIN 41", x.set(0, 41), 10);
            due("YEARS 41", x.set(1, 41), BAD);
            due("YEARS 3", x.set(1, 3), 0);
            due("KIND 3", x.set(2, 3), BAD);
            due("KIND 2", x.set(2, 2), 0);
            due("MARGIN", x.set(0, 100), 41);
            due("YEARS", x.set(1, 40), 3);
            due("KIND", x.set(2, 0), 2);
            due("count(4)", x.count(4), 100);
            due("count(5)", x.count(5), 40);
            due("count(6)", x.count(6), 0);
        }
    }

    /** Promises 5 and 22. */
    private static final class Limits {
        static void all() {
            range("5: KINDS 0, 1, 2", 0, 2, v -> steps(1).limit(v, 0));
            range("5: of a STEP, of five", 0, 4, v -> steps(5).limit(2, v));
            range("5: of a STEP, of one", 0, 0, v -> steps(1).limit(0, v));
            safe();
            old();
            leastOfIn();
            trace();
        }

        private static WaterTwice one(int in, int out, int margin, int years) {
            WaterTwice x = new WaterTwice();
            x.step(1, in, out);
            x.set(0, margin);
            x.set(1, years);
            return x;
        }

        private static void safe() {
            sentence = "5: SAFE up, less THE MARGIN, but 1 above IN at least";
            due("no margin", one(100, 150, 0, 40).limit(1, 0), 150);
            due("margin 48", one(100, 150, 48, 0).limit(1, 0), 102);
            due("margin 49, just 1 above IN", one(100, 150, 49, 0).limit(1, 0), 101);
            due("margin 50, else IN", one(100, 150, 50, 0).limit(1, 0), 101);
            due("margin 51, else below IN", one(100, 150, 51, 0).limit(1, 0), 101);
            due("margin 100", one(100, 150, 100, 0).limit(1, 0), 101);
            due("greatest IN and OUT", one(400, 500, 100, 0).limit(1, 0), 401);
            due("OUT 1 above IN", one(400, 401, 10, 0).limit(1, 0), 401);
            due("10 at first", steps(1).limit(1, 0), 490);
        }

        private static void old() {
            sentence = "5: OLD up, less 2 for each YEAR, but 1 above IN at least";
            due("no years", one(100, 150, 0, 0).limit(2, 0), 150);
            due("a year", one(100, 150, 0, 1).limit(2, 0), 148);
            due("24 years", one(100, 150, 0, 24).limit(2, 0), 102);
            due("25 years, else IN", one(100, 150, 0, 25).limit(2, 0), 101);
            due("24 years, just 1 above IN", one(100, 150, 1, 24).limit(2, 0), 101);
            due("40 years", one(100, 150, 0, 40).limit(2, 0), 101);
            due("40 years and margin 100", one(0, 500, 100, 40).limit(2, 0), 320);
            due("0 years at first", steps(1).limit(2, 0), 490);
            sentence = "5: OLD stands behind SAFE, which is 1 above IN at least";
            due("SAFE is at its least", one(100, 150, 100, 1).limit(2, 0), 101);
        }

        private static void leastOfIn() {
            sentence = "5: 1 above IN, of IN 0";
            due("SAFE", one(0, 1, 100, 0).limit(1, 0), 1);
            due("OLD", one(0, 1, 0, 40).limit(2, 0), 1);
            due("PLAIN", one(0, 1, 100, 40).limit(0, 0), 1);
            sentence = "5: PLAIN is OUT, whatever is set";
            due("PLAIN", one(0, 500, 100, 40).limit(0, 0), 500);
        }

        private static void trace() {
            sentence = "22: as often as limit() asks that body";
            int[] brings = {1, 11, 111};
            for (int kind = 0; kind < brings.length; kind++) {
                WaterTwice x = steps(2);
                x.limit(kind, 1);
                due("kind " + kind, x.trace(), brings[kind]);
                x.limit(kind, 0);
                due("kind " + kind + " again", x.trace(), 2 * brings[kind]);
                due("trace() adds nothing", x.trace(), 2 * brings[kind]);
            }
            sentence = "22: as often, of all calls of an object";
            WaterTwice many = steps(1);
            for (int i = 0; i < 510; i++) {
                many.limit(2, 0);
            }
            due("trace", many.trace(), 510 * 111);
            sentence = "22: a refused limit() asks no body";
            WaterTwice x = steps(1);
            x.limit(-1, 0);
            x.limit(3, 0);
            x.limit(2, 1);
            x.limit(2, -1);
            due("trace", x.trace(), 0);
            sentence = "22: limit() alone, not what else holds a STEP against its LIMIT";
            for (int kind = 0; kind < 3; kind++) {
                WaterTwice y = wet(2, 1);
                y.set(2, kind);
                due("fails", y.fails(), 0);
                y.at(0, 0);
                y.least(2);
                due("trace", y.trace(), 0);
            }
        }
    }

    /** Promises 6 and 7. */
    private static final class Dirt {
        static void all() {
            range("6: x (1 .. 500)", 1, 500, v -> steps(1).dirt(v, 0));
            range("6: x (1 .. 500), without STEPS", 1, 500, v -> new WaterTwice().dirt(v, 1));
            range("6: part 0, 1", 0, 1, v -> steps(1).dirt(1, v));
            lesserOfXAndOut();
            withoutSteps();
            widestFraction();
            range("7: what = 0, 1, 2", 0, 2, v -> steps(1).least(v));
            leastX();
            greatest();
            onlyInAndOut();
            edgesOfX();
        }

        private static void below(WaterTwice x, int at, long upper, long lower) {
            due("dirt(" + at + ", 0)", x.dirt(at, 0), upper);
            due("dirt(" + at + ", 1)", x.dirt(at, 1), lower);
        }

        private static void leastFresh(WaterTwice x, long upper, long lower, int pinch) {
            due("least(0)", x.least(0), upper);
            due("least(1)", x.least(1), lower);
            due("least(2)", x.least(2), pinch);
        }

        private static void lesserOfXAndOut() {
            sentence = "6: the lesser of x and OUT, less IN; 0 at least";
            WaterTwice x = new WaterTwice();
            x.step(9, 100, 106);
            below(x, 1, 0, 1);
            below(x, 99, 0, 1);
            below(x, 100, 0, 1);
            below(x, 101, 3, 2);
            below(x, 105, 15, 2);
            below(x, 106, 9, 1);
            below(x, 107, 9, 1);
            below(x, 500, 9, 1);
            sentence = "6: 0 at least, so that one STEP takes nothing from another";
            x.step(1000, 400, 500);
            below(x, 106, 9, 1);
            below(x, 400, 9, 1);
            below(x, 401, 19, 1);
            below(x, 500, 1009, 1);
        }

        private static void withoutSteps() {
            sentence = "6: in least form, 0 is 0 by 1";
            below(new WaterTwice(), 1, 0, 1);
            below(new WaterTwice(), 500, 0, 1);
            sentence = "7: 0 without STEPS; NONE without STEPS";
            leastFresh(new WaterTwice(), 0, 1, NONE);
        }

        private static void widestFraction() {
            sentence = "6, 7: told exactly, with the widest fractions";
            int[] outs = {499, 497, 493, 491, 487};
            WaterTwice x = new WaterTwice();
            BigInteger lower = BigInteger.ONE;
            for (int out : outs) {
                x.step(1000, 0, out);
                lower = lower.multiply(BigInteger.valueOf(out));
            }
            BigInteger upper = BigInteger.ZERO;
            for (int out : outs) {
                upper = upper.add(lower.divide(BigInteger.valueOf(out)).multiply(BigInteger.valueOf(1000)));
            }
            BigInteger divisor = upper.gcd(lower);
            below(x, 1, upper.divide(divisor).longValueExact(), lower.divide(divisor).longValueExact());
            // Below the least OUT, DIRT below x by x is the same for each x.
            leastFresh(x, upper.divide(divisor).longValueExact(), lower.divide(divisor).longValueExact(), 487);
        }

        private static void leastX() {
            sentence = "7: THE PINCH: the least such x that has it";
            int[][] orders = {{0, 1, 2}, {2, 1, 0}, {1, 2, 0}};
            int[][] limits = {{0, 100}, {100, 200}, {200, 300}};
            for (int[] order : orders) {
                WaterTwice x = new WaterTwice();
                for (int i : order) {
                    x.step(100, limits[i][0], limits[i][1]);
                }
                leastFresh(x, 1, 1, 100);
            }
            sentence = "7: the greatest, by one gram more";
            WaterTwice x = new WaterTwice();
            x.step(100, 0, 100);
            x.step(100, 100, 200);
            x.step(101, 200, 300);
            leastFresh(x, 301, 300, 300);
            x.change(2, 0, 99);
            leastFresh(x, 1, 1, 100);
            sentence = "7: the greatest, by less than a whole ton";
            WaterTwice y = new WaterTwice();
            y.step(7, 1, 2);
            y.step(4, 2, 3);
            leastFresh(y, 11, 3, 3);
            y.change(1, 0, 3);
            leastFresh(y, 7, 2, 2);
            WaterTwice z = new WaterTwice();
            z.step(4, 2, 3);
            z.step(7, 1, 2);
            leastFresh(z, 11, 3, 3);
            z.change(0, 0, 3);
            leastFresh(z, 7, 2, 2);
        }

        private static void greatest() {
            sentence = "7: the greatest there may be";
            WaterTwice x = new WaterTwice();
            for (int i = 0; i < MOST_STEPS; i++) {
                x.step(1000, 0, 1);
            }
            leastFresh(x, 5000, 1, 1);
            sentence = "7: the least there may be, in least form";
            WaterTwice y = new WaterTwice();
            y.step(1, 0, 500);
            leastFresh(y, 1, 500, 500);
            y.change(0, 0, 250);
            leastFresh(y, 1, 2, 500);
        }

        private static void onlyInAndOut() {
            sentence = "7: x that is IN or OUT of a STEP";
            WaterTwice x = new WaterTwice();
            x.step(100, 0, 200);
            leastFresh(x, 1, 2, 200);
            sentence = "7: OUT, whatever the KIND at hand makes of it";
            x.set(0, 100);
            x.set(2, 2);
            leastFresh(x, 1, 2, 200);
        }

        private static void edgesOfX() {
            sentence = "7: over x 1 .. 500";
            WaterTwice first = new WaterTwice();
            first.step(1, 0, 1);
            first.step(1, 1, 500);
            leastFresh(first, 1, 1, 1);
            WaterTwice last = new WaterTwice();
            last.step(1000, 400, 500);
            leastFresh(last, 2, 1, 500);
            sentence = "7: an IN of 0 is no such x";
            WaterTwice zero = new WaterTwice();
            zero.step(1, 0, 500);
            zero.step(1, 0, 500);
            leastFresh(zero, 1, 250, 500);
        }
    }

    /** Promises 8, 9 and 10. */
    private static final class Pipes {
        static void all() {
            range("8: F (0 .. 100)", 0, 100, v -> steps(1).fresh(0, v));
            range("8: of a STEP, of five", 0, 4, v -> steps(5).fresh(v, 1));
            range("8: of a STEP, of one", 0, 0, v -> steps(1).fresh(v, 1));
            range("9: G (0 .. 100)", 0, 100, v -> steps(2).pipe(0, 1, v));
            range("9: from a STEP", 1, 4, v -> steps(5).pipe(v, 0, 1));
            range("9: from a STEP to the last", 0, 3, v -> steps(5).pipe(v, 4, 1));
            range("9: to a STEP", 1, 4, v -> steps(5).pipe(0, v, 1));
            range("9: to a STEP from the last", 0, 3, v -> steps(5).pipe(4, v, 1));
            range("9: from a STEP, of two", 0, 0, v -> steps(2).pipe(v, 1, 1));
            range("9: to a STEP, of two", 1, 1, v -> steps(2).pipe(0, v, 1));
            oneAndTheSame();
            atFirst();
            range("10: of a STEP, of five", 0, 4, v -> steps(5).water(v, 0));
            range("10: what = 0, 1", 0, 1, v -> steps(1).water(0, v));
            together();
        }

        private static void oneAndTheSame() {
            sentence = "9: BAD: one and the same, too";
            WaterTwice x = steps(5);
            for (int i = 0; i < MOST_STEPS; i++) {
                due("with 1", x.pipe(i, i, 1), BAD);
                due("with 0", x.pipe(i, i, 0), BAD);
                due("with 100", x.pipe(i, i, 100), BAD);
                due("water", x.water(i, 0), 0);
                due("from it", x.water(i, 1), 0);
            }
        }

        private static void atFirst() {
            sentence = "8, 9: 0 at first; what it was";
            WaterTwice x = steps(5);
            for (int i = 0; i < MOST_STEPS; i++) {
                due("F at first", x.fresh(i, 100), 0);
                due("F then", x.fresh(i, 0), 100);
                due("F then", x.fresh(i, i + 1), 0);
                for (int j = 0; j < MOST_STEPS; j++) {
                    if (j != i) {
                        due("G at first", x.pipe(i, j, 100), 0);
                        due("G then", x.pipe(i, j, 0), 100);
                        due("G then", x.pipe(i, j, 10 * i + j), 0);
                    }
                }
            }
            for (int i = 0; i < MOST_STEPS; i++) {
                due("F kept", x.fresh(i, 0), i + 1);
                for (int j = 0; j < MOST_STEPS; j++) {
                    due("G kept", x.pipe(i, j, 0), i == j ? BAD : 10 * i + j);
                }
            }
        }

        private static void together() {
            sentence = "10: F and all G to it, together: the most";
            WaterTwice x = wet(5, 100);
            for (int i = 0; i < MOST_STEPS; i++) {
                for (int j = 0; j < MOST_STEPS; j++) {
                    x.pipe(i, j, 100);
                }
            }
            for (int i = 0; i < MOST_STEPS; i++) {
                due("water", x.water(i, 0), 500);
                due("from it", x.water(i, 1), 400);
            }
            sentence = "10: none";
            WaterTwice dry = steps(5);
            for (int i = 0; i < MOST_STEPS; i++) {
                due("water", dry.water(i, 0), 0);
                due("from it", dry.water(i, 1), 0);
            }
            sentence = "10: fresh water goes from no STEP";
            WaterTwice only = wet(1, 100);
            due("water", only.water(0, 0), 100);
            due("from it", only.water(0, 1), 0);
        }
    }

    /** Promise 11. */
    private static final class Laws {
        static void all() {
            withoutSteps();
            noWater();
            moreThanItsWater();
            ring();
            takenAgainAndAgain();
            dirtierThanIn();
            dirtierThanLimit();
            limitAtHand();
            firstLaw();
            leastStep();
        }

        private static void withoutSteps() {
            sentence = "11: WELL (so it is without STEPS)";
            WaterTwice x = new WaterTwice();
            due("fails", x.fails(), 0);
            x.set(2, 2);
            due("fails, OLD at hand", x.fails(), 0);
            x.meter(1);
            x.store(0, 1, 500);
            due("fails, with a store and a meter", x.fails(), 0);
        }

        private static void noWater() {
            sentence = "11: 1 a STEP has no WATER";
            for (int dry = 0; dry < MOST_STEPS; dry++) {
                WaterTwice x = wet(5, 1);
                x.fresh(dry, 0);
                due("fails", x.fails(), 10 + dry);
                x.fresh(dry, 1);
                due("one ton is enough", x.fails(), 0);
                x.fresh(dry, 0);
                x.pipe(dry == 4 ? 0 : 4, dry, 1);
                due("one ton from another is WATER, too", x.fails(), 40 + dry);
            }
        }

        private static void moreThanItsWater() {
            sentence = "11: 2 more goes from it than its WATER";
            for (int from = 0; from < MOST_STEPS; from++) {
                int to = (from + 1) % MOST_STEPS;
                int other = (from + 2) % MOST_STEPS;
                WaterTwice x = wet(5, 3);
                x.pipe(from, to, 3);
                due("all of it", x.fails(), 40 + to);
                x.pipe(from, to, 4);
                due("a ton more", x.fails(), 20 + from);
                x.pipe(from, to, 1);
                x.pipe(from, other, 2);
                due("all of it, in two pipes", x.fails(), 40 + Math.min(to, other));
                x.pipe(from, other, 3);
                due("a ton more, in two pipes", x.fails(), 20 + from);
            }
            sentence = "11: 2 its WATER is F and G";
            WaterTwice x = wet(3, 1);
            x.pipe(0, 1, 1);
            x.pipe(1, 2, 2);
            due("all of it", x.fails(), 41);
            x.pipe(1, 2, 3);
            due("a ton more", x.fails(), 21);
        }

        private static void ring() {
            sentence = "11: 3 it is in A RING";
            WaterTwice two = wet(2, 1);
            two.pipe(0, 1, 1);
            due("no ring yet", two.fails(), 41);
            two.pipe(1, 0, 1);
            due("a ring of two", two.fails(), 30);
            two.pipe(0, 1, 0);
            due("it is cut", two.fails(), 40);
            WaterTwice five = wet(5, 1);
            for (int i = 0; i < MOST_STEPS; i++) {
                five.pipe(i, (i + 1) % MOST_STEPS, 1);
            }
            due("a ring of five", five.fails(), 30);
            five.pipe(2, 3, 0);
            due("it is cut", five.fails(), 40);
            WaterTwice last = wet(5, 1);
            last.pipe(3, 4, 1);
            last.pipe(4, 3, 1);
            due("a ring of the last two", last.fails(), 33);
            sentence = "11: 3 one that is never taken";
            last.pipe(4, 0, 1);
            due("one that has G of the ring", last.fails(), 30);
            last.pipe(4, 0, 0);
            last.pipe(0, 4, 1);
            due("one that the ring has G of is taken", last.fails(), 33);
            WaterTwice end = wet(5, 1);
            end.pipe(0, 4, 1);
            end.pipe(1, 4, 1);
            due("one with G of two is not in a ring", end.fails(), 44);
        }

        private static void takenAgainAndAgain() {
            sentence = "11: 3 STEPS are taken, again and again";
            int[][] chains = {{4, 3, 2, 1, 0}, {0, 1, 2, 3, 4}, {2, 4, 1, 3, 0}};
            for (int[] chain : chains) {
                WaterTwice x = new WaterTwice();
                for (int i = 0; i < MOST_STEPS; i++) {
                    x.step(1, 400, 500);
                    x.fresh(i, 1);
                }
                for (int i = 0; i + 1 < MOST_STEPS; i++) {
                    x.pipe(chain[i], chain[i + 1], 1);
                }
                due("a chain of all", x.fails(), 0);
                x.pipe(chain[4], chain[0], 1);
                due("closed", x.fails(), 30);
            }
        }

        private static WaterTwice pair(int load, int in, int out) {
            WaterTwice x = new WaterTwice();
            x.step(10, 0, 500);
            x.step(load, in, out);
            x.fresh(0, 1);
            x.pipe(0, 1, 1);
            return x;
        }

        private static void dirtierThanIn() {
            sentence = "11: 4 what comes is dirtier than IN";
            due("as dirty", pair(1, 10, 500).fails(), 0);
            due("dirtier by 1", pair(1, 9, 500).fails(), 41);
            WaterTwice part = pair(1, 4, 500);
            part.fresh(1, 1);
            due("5 and IN 4", part.fails(), 41);
            part.change(0, 0, 8);
            due("4 and IN 4", part.fails(), 0);
            part.change(0, 0, 9);
            due("4 and a half and IN 4", part.fails(), 41);
            part.fresh(1, 100);
            part.change(0, 0, 404);
            due("404 by 101 and IN 4", part.fails(), 0);
            part.change(0, 0, 405);
            due("405 by 101 and IN 4", part.fails(), 41);
            sentence = "11: 4 (Fresh water has none.)";
            due("IN 0", wet(5, 1).fails(), 0);
            due("IN 0 and the least dirt", pairOfLittle().fails(), 41);
        }

        private static WaterTwice pairOfLittle() {
            WaterTwice x = steps(2);
            x.fresh(0, 100);
            x.fresh(1, 100);
            x.pipe(0, 1, 1);
            return x;
        }

        private static void dirtierThanLimit() {
            sentence = "11: 5 what is at its end is dirtier than its LIMIT";
            due("as dirty", pair(5, 10, 15).fails(), 0);
            due("dirtier by 1", pair(6, 10, 15).fails(), 51);
            WaterTwice x = new WaterTwice();
            x.step(1000, 0, 10);
            x.fresh(0, 100);
            due("1000 by 100 and OUT 10", x.fails(), 0);
            x.fresh(0, 99);
            due("1000 by 99 and OUT 10", x.fails(), 50);
            x.change(0, 0, 990);
            due("990 by 99 and OUT 10", x.fails(), 0);
            x.change(0, 0, 991);
            due("991 by 99 and OUT 10", x.fails(), 50);
        }

        private static void limitAtHand() {
            sentence = "11: 5 by the KIND at hand";
            int[] most = {60, 50, 44};
            for (int kind = 0; kind < most.length; kind++) {
                WaterTwice x = new WaterTwice();
                x.step(most[kind], 0, 60);
                x.fresh(0, 1);
                x.set(1, 3);
                x.set(2, kind);
                due("as dirty, by " + kind, x.fails(), 0);
                x.change(0, 0, most[kind] + 1);
                due("dirtier, by " + kind, x.fails(), 50);
            }
            sentence = "11: 5 a LIMIT is 1 above IN at least";
            for (int kind = 1; kind < most.length; kind++) {
                WaterTwice x = pair(1, 10, 20);
                x.set(0, kind == 1 ? 100 : 0);
                x.set(1, 40);
                x.set(2, kind);
                due("1 above IN, by " + kind, x.fails(), 0);
                x.change(1, 0, 2);
                due("2 above IN, by " + kind, x.fails(), 51);
            }
        }

        /** The law of the last STEP is told ahead of the next law of the first STEP. */
        private static void firstLaw() {
            sentence = "11: FAILS by the first of these";
            WaterTwice x = wet(5, 1);
            x.change(0, 0, 501);
            due("5 of STEP 0", x.fails(), 50);
            x.pipe(0, 4, 1);
            due("4 of STEP 4 ahead of 5 of STEP 0", x.fails(), 44);
            x.pipe(1, 0, 1);
            due("4 of STEP 0", x.fails(), 40);
            x.pipe(3, 4, 1);
            x.pipe(4, 3, 1);
            due("3 of STEP 3 ahead of 4 of STEP 0", x.fails(), 33);
            x.pipe(1, 0, 0);
            x.pipe(4, 0, 1);
            due("3 of STEP 0", x.fails(), 30);
            x.pipe(4, 2, 3);
            due("2 of STEP 4 ahead of 3 of STEP 0", x.fails(), 24);
            x.pipe(0, 4, 5);
            due("2 of STEP 0", x.fails(), 20);
            x.fresh(4, 0);
            x.pipe(3, 4, 0);
            x.pipe(0, 4, 0);
            x.pipe(0, 1, 9);
            due("1 of STEP 4 ahead of 2 of STEP 0", x.fails(), 14);
        }

        private static void leastStep() {
            sentence = "11: and of STEPS by the least; 10 times that, and the STEP";
            WaterTwice dry = steps(5);
            WaterTwice dirty = new WaterTwice();
            for (int i = 0; i < MOST_STEPS; i++) {
                dirty.step(2, 0, 1);
                dirty.fresh(i, 1);
            }
            for (int i = 0; i < MOST_STEPS; i++) {
                due("1", dry.fails(), 10 + i);
                dry.fresh(i, 1);
                due("5", dirty.fails(), 50 + i);
                dirty.change(i, 0, 1);
            }
            due("no more by 1", dry.fails(), 0);
            due("no more by 5", dirty.fails(), 0);
            WaterTwice all = wet(5, 1);
            all.pipe(2, 3, 2);
            all.pipe(4, 3, 2);
            due("2", all.fails(), 22);
            all.pipe(2, 3, 1);
            due("2 of the next", all.fails(), 24);
            all.pipe(4, 3, 1);
            due("4", all.fails(), 43);
            all.pipe(1, 2, 1);
            due("4 of the lesser", all.fails(), 42);
            all.pipe(0, 1, 1);
            due("4 of the least", all.fails(), 41);
        }
    }

    /** Promise 12. */
    private static final class Ends {
        static void all() {
            range("12: of a STEP, of five", 0, 4, v -> wet(5, 1).at(v, 0));
            range("12: of a STEP, of one", 0, 0, v -> wet(1, 1).at(v, 1));
            range("12: part 0, 1", 0, 1, v -> wet(1, 1).at(0, v));
            range("12: BAD ahead of STATE: a STEP", 0, 4, v -> steps(5).at(v, 0));
            range("12: BAD ahead of STATE: a part", 0, 1, v -> steps(5).at(0, v));
            state();
            noState();
            leastForm();
            sumOverSteps();
            widest();
        }

        private static void each(WaterTwice x, long want) {
            for (int i = 0; i < MOST_STEPS; i++) {
                due("at(" + i + ", 0)", x.at(i, 0), want);
                due("at(" + i + ", 1)", x.at(i, 1), want);
            }
        }

        private static void state() {
            sentence = "12: STATE: it FAILS by 1";
            WaterTwice dry = wet(5, 1);
            dry.fresh(4, 0);
            each(dry, STATE);
            sentence = "12: STATE: it FAILS by 2";
            WaterTwice over = wet(5, 1);
            over.pipe(4, 3, 2);
            each(over, STATE);
            sentence = "12: STATE: it FAILS by 3";
            WaterTwice ring = wet(5, 1);
            ring.pipe(4, 3, 1);
            ring.pipe(3, 4, 1);
            each(ring, STATE);
            ring.pipe(3, 4, 0);
            due("no more", ring.at(4, 0), 1);
        }

        private static void noState() {
            sentence = "12: it FAILS by 4 and is told all the same";
            WaterTwice x = wet(2, 1);
            x.pipe(0, 1, 1);
            due("fails", x.fails(), 41);
            due("at(1, 0)", x.at(1, 0), 1);
            sentence = "12: it FAILS by 5 and is told all the same";
            WaterTwice y = new WaterTwice();
            y.step(1000, 0, 1);
            y.fresh(0, 1);
            due("fails", y.fails(), 50);
            due("at(0, 0)", y.at(0, 0), 1000);
            due("at(0, 1)", y.at(0, 1), 1);
            sentence = "12: all that is at a STEP's end goes on";
            WaterTwice z = wet(2, 1);
            z.fresh(1, 0);
            z.pipe(0, 1, 1);
            due("at(1, 0)", z.at(1, 0), 2);
        }

        private static void leastForm() {
            sentence = "12: a fraction in least form";
            WaterTwice x = new WaterTwice();
            x.step(6, 0, 500);
            int[][] due = {{4, 3, 2}, {6, 1, 1}, {12, 1, 2}, {7, 6, 7}, {100, 3, 50}, {1, 6, 1}};
            for (int[] d : due) {
                x.fresh(0, d[0]);
                due("upper of 6 by " + d[0], x.at(0, 0), d[1]);
                due("lower of 6 by " + d[0], x.at(0, 1), d[2]);
            }
        }

        private static void sumOverSteps() {
            sentence = "12: the sum over STEPS r, of lower parts that share a divisor or none";
            int[][] waters = {{4, 6}, {6, 4}, {4, 7}, {6, 6}, {1, 4}, {10, 4}, {99, 100}};
            for (int[] d : waters) {
                WaterTwice x = steps(3);
                x.fresh(0, d[0]);
                x.fresh(1, d[1]);
                x.fresh(2, 2);
                x.pipe(0, 2, 1);
                x.pipe(1, 2, 1);
                // 1 by the one, 1 by the other, and its own LOAD of 1, in 4 tons.
                BigInteger lower = BigInteger.valueOf(4L * d[0] * d[1]);
                BigInteger upper = BigInteger.valueOf((long) d[0] + d[1] + (long) d[0] * d[1]);
                BigInteger divisor = upper.gcd(lower);
                due("at(2, 0)", x.at(2, 0), upper.divide(divisor).longValueExact());
                due("at(2, 1)", x.at(2, 1), lower.divide(divisor).longValueExact());
            }
        }

        /** A chain of all five with waters that share no divisor: the lower part is their product. */
        private static void widest() {
            sentence = "12: told exactly, with a wide fraction";
            int[] waters = {97, 89, 83, 79, 73};
            WaterTwice x = new WaterTwice();
            BigInteger upper = BigInteger.ZERO;
            BigInteger lower = BigInteger.ONE;
            for (int i = 0; i < MOST_STEPS; i++) {
                x.step(1000, 0, 500);
                x.fresh(i, i == 0 ? waters[i] : waters[i] - 50);
                if (i > 0) {
                    x.pipe(i - 1, i, 50);
                }
                upper = upper.multiply(BigInteger.valueOf(i == 0 ? 0 : 50)).add(lower.multiply(BigInteger.valueOf(1000)));
                lower = lower.multiply(BigInteger.valueOf(waters[i]));
                BigInteger divisor = upper.gcd(lower);
                upper = upper.divide(divisor);
                lower = lower.divide(divisor);
            }
            due("at(4, 0)", x.at(4, 0), upper.longValueExact());
            due("at(4, 1)", x.at(4, 1), lower.longValueExact());
        }
    }

    /** Promise 13. */
    private static final class Upset {
        static void all() {
            range("13: HOUR h (0 .. 1000)", 0, 1000, v -> steps(1).hit(0, v, 0));
            range("13: at a STEP, of five", 0, 4, v -> steps(5).hit(v, 0, 0));
            range("13: a STEP is hit, of five", 0, 4, v -> steps(5).hit(0, 0, v));
            range("13: at a STEP, of one", 0, 0, v -> steps(1).hit(v, 0, 0));
            range("13: a STEP is hit, of one", 0, 0, v -> steps(1).hit(0, 0, v));
            itself();
            lag();
            firstHour();
            someAreNot();
            anyDesign();
        }

        private static void itself() {
            sentence = "13: (or itself)";
            WaterTwice x = steps(5);
            for (int i = 0; i < MOST_STEPS; i++) {
                x.change(i, 1, 9);
                due("hour 0", x.hit(i, 0, i), 0);
                due("hour 1000", x.hit(i, 1000, i), 1000);
            }
            x.pipe(0, 1, 1);
            x.pipe(1, 0, 1);
            due("in a ring", x.hit(0, 5, 0), 5);
            x.change(0, 1, 0);
            x.change(1, 1, 0);
            due("in a ring without LAGS", x.hit(1, 5, 1), 5);
        }

        private static void lag() {
            sentence = "13: its LAG (0 .. 9; 1 at first) behind";
            WaterTwice x = steps(5);
            for (int i = 0; i + 1 < MOST_STEPS; i++) {
                x.pipe(i, i + 1, 1);
            }
            due("four LAGS at first", x.hit(0, 0, 4), 4);
            for (int i = 0; i < MOST_STEPS; i++) {
                x.change(i, 1, 9);
            }
            due("the latest HOUR there may be", x.hit(0, 1000, 4), 1036);
            x.change(0, 1, 0);
            due("its own LAG, not that of where it began", x.hit(0, 0, 1), 9);
            for (int i = 0; i < MOST_STEPS; i++) {
                x.change(i, 1, 0);
            }
            due("without LAGS, in the same HOUR", x.hit(0, 1000, 4), 1000);
            due("without LAGS, HOUR 0", x.hit(0, 0, 4), 0);
        }

        private static void firstHour() {
            sentence = "13: the first HOUR in which one that it has G of is hit";
            WaterTwice x = steps(5);
            x.pipe(0, 1, 1);
            x.pipe(0, 2, 1);
            x.pipe(1, 4, 1);
            x.pipe(2, 4, 1);
            x.change(1, 1, 7);
            x.change(2, 1, 6);
            due("by the quicker one", x.hit(0, 0, 4), 7);
            x.change(1, 1, 5);
            due("by the other", x.hit(0, 0, 4), 6);
            x.pipe(2, 3, 1);
            x.pipe(3, 1, 1);
            x.change(1, 1, 9);
            x.change(2, 1, 0);
            x.change(3, 1, 0);
            due("the long way gives the first HOUR no sooner", x.hit(0, 0, 1), 9);
            x.pipe(2, 4, 0);
            due("behind it", x.hit(0, 0, 4), 10);
            WaterTwice back = steps(5);
            back.pipe(4, 3, 1);
            back.pipe(3, 2, 1);
            back.pipe(2, 1, 1);
            back.pipe(1, 0, 1);
            back.pipe(4, 0, 1);
            back.change(0, 1, 9);
            due("straight", back.hit(4, 0, 0), 9);
            back.pipe(4, 0, 0);
            due("against the numbers of the STEPS", back.hit(4, 0, 0), 12);
        }

        private static void someAreNot() {
            sentence = "13: some are not; NONE";
            WaterTwice x = steps(5);
            due("without PIPES", x.hit(0, 0, 1), NONE);
            x.pipe(1, 0, 100);
            due("against the pipe", x.hit(0, 0, 1), NONE);
            due("along it", x.hit(1, 0, 0), 1);
            x.pipe(1, 0, 0);
            due("a pipe of 0", x.hit(1, 0, 0), NONE);
            x.fresh(0, 100);
            x.fresh(1, 100);
            due("fresh water brings none", x.hit(1, 0, 0), NONE);
            x.pipe(2, 3, 1);
            x.pipe(3, 2, 1);
            x.change(2, 1, 0);
            x.change(3, 1, 0);
            due("a ring without LAGS that has G of none else", x.hit(0, 0, 2), NONE);
            due("the other of it", x.hit(0, 0, 3), NONE);
            x.pipe(2, 4, 1);
            due("behind that ring", x.hit(0, 0, 4), NONE);
            due("that ring, hit by itself", x.hit(3, 5, 2), 5);
            due("what was asked ahead is not left over", x.hit(0, 0, 2), NONE);
            due("nor for the other of it", x.hit(0, 0, 3), NONE);
            x.pipe(0, 2, 1);
            due("the ring is hit", x.hit(0, 0, 4), 1);
            for (int i = 0; i + 1 < MOST_STEPS; i++) {
                WaterTwice y = steps(5);
                y.pipe(i, i + 1, 1);
                y.pipe(i + 1, i, 1);
                int apart = (i + 2) % MOST_STEPS;
                due("a ring of two, hit by itself", y.hit(i, 7, i + 1), 8);
                due("then not hit: the one", y.hit(apart, 7, i), NONE);
                due("then not hit: the other", y.hit(apart, 7, i + 1), NONE);
            }
        }

        private static void anyDesign() {
            sentence = "13: whatever the design FAILS by";
            WaterTwice x = steps(2);
            x.pipe(0, 1, 1);
            due("fails", x.fails(), 10);
            due("without WATER", x.hit(0, 0, 1), 1);
        }
    }

    /** Promise 14. */
    private static final class Basin {
        static void all() {
            range("14: V tons (1 .. 1000)", 1, 1000, v -> new WaterTwice().steady(v, 0, 0, 0, 0));
            range("14: D (0 .. 1000000)", 0, 1000000, v -> new WaterTwice().steady(1000, v, 0, 0, 0));
            range("14: l grams (0 .. 1000)", 0, 1000, v -> new WaterTwice().steady(1000, 0, v, 1000, 0));
            range("14: b tons (0 .. V), of 1", 0, 1, v -> new WaterTwice().steady(1, 0, 0, v, 0));
            range("14: b tons (0 .. V), of 7", 0, 7, v -> new WaterTwice().steady(7, 0, 0, v, 1));
            range("14: b tons (0 .. V), of 1000", 0, 1000, v -> new WaterTwice().steady(1000, 0, 0, v, 0));
            range("14: what = 0, 1", 0, 1, v -> new WaterTwice().steady(1, 0, 0, 0, v));
            roundedUp();
            loadFirst();
            firstHour();
            lastHour();
            none();
            most();
        }

        private static void basin(int v, int d, int l, int b, int hour, int dirt) {
            WaterTwice x = new WaterTwice();
            String call = "steady(" + v + ", " + d + ", " + l + ", " + b + ", ";
            due(call + "0)", x.steady(v, d, l, b, 0), hour);
            due(call + "1)", x.steady(v, d, l, b, 1), dirt);
        }

        private static void roundedUp() {
            sentence = "14: D times b by V, rounded up";
            basin(1000, 1, 0, 1, 1, 0);
            basin(1000, 2, 0, 1, 2, 0);
            basin(1000, 999, 0, 1, 999, 0);
            basin(2, 3, 0, 1, 2, 0);
            sentence = "14: a whole number is not rounded";
            basin(2, 1, 1, 1, 1, 1);
            basin(1000, 1000, 0, 1, 1000, 0);
            basin(3, 6, 3, 1, 1, 6);
        }

        private static void loadFirst() {
            sentence = "14: first a LOAD comes, then b tons are let off";
            basin(7, 100, 1000, 7, 1, 0);
            basin(10, 0, 10, 5, 4, 9);
            sentence = "14: b is 0 .. V: all, and nothing";
            basin(1, 1000000, 1000, 1, 1, 0);
            basin(1000, 1000000, 1000, 1000, 1, 0);
            basin(1000, 1000000, 0, 0, 1, 1000000);
            basin(1, 0, 0, 0, 1, 0);
        }

        private static void firstHour() {
            sentence = "14: the first HOUR (1 ..) behind which D is the same as behind the next one";
            // D is the same at first and behind HOUR 1; HOUR 0 is none.
            basin(5, 42, 0, 0, 1, 42);
            // D differs at first, and is the same behind the HOURS 1 and 2.
            basin(5, 42, 0, 5, 1, 0);
            basin(2, 4, 0, 1, 3, 0);
        }

        /** The least D at first of 1000 tons, of which 1 is let off, that is gone just behind that HOUR. */
        private static int goneBehind(int hours) {
            int dirt = 0;
            for (int hour = 0; hour < hours; hour++) {
                int ahead = dirt + 1;
                while (ahead - (ahead + 999) / 1000 < dirt) {
                    ahead++;
                }
                dirt = ahead;
            }
            return dirt;
        }

        private static void lastHour() {
            sentence = "14: HOUR (.. 5000)";
            basin(1000, goneBehind(4999), 0, 1, 4999, 0);
            basin(1000, goneBehind(5000), 0, 1, 5000, 0);
            sentence = "14: HOUR 5001 is past it: NONE";
            basin(1000, goneBehind(5001), 0, 1, NONE, NONE);
            basin(1000, goneBehind(5002), 0, 1, NONE, NONE);
        }

        private static void none() {
            sentence = "14: NONE";
            basin(1000, 1000000, 0, 1, NONE, NONE);
            basin(1, 0, 1, 0, NONE, NONE);
            basin(1000, 1000000, 1000, 0, NONE, NONE);
            basin(1000, 0, 1000, 1, NONE, NONE);
        }

        private static void most() {
            sentence = "14: the greatest numbers there may be";
            basin(1000, 1000000, 1000, 999, 3, 1);
            basin(1000, 999000, 1000, 1, 1, 999000);
            basin(1000, 999001, 1000, 1, 1, 999000);
        }
    }

    /** Promises 15 and 16. */
    private static final class Store {
        static void all() {
            range("15: HOURS 0 .. 23", 0, 23, v -> new WaterTwice().store(v, 0, 1));
            range("15: HOURS 0 .. 23, of OUT", 0, 23, v -> new WaterTwice().store(v, 1, 1));
            range("15: what = 0, 1", 0, 1, v -> new WaterTwice().store(0, v, 1));
            range("15: IN (0 .. 500)", 0, 500, v -> new WaterTwice().store(0, 0, v));
            range("15: OUT (0 .. 500)", 0, 500, v -> new WaterTwice().store(0, 1, v));
            atFirst();
            range("16: what = 0, 1", 0, 1, v -> new WaterTwice().room(v));
            inAheadOfOut();
            neverBelowZero();
            atAnyTime();
            firstAndLastHour();
            most();
        }

        private static void rooms(WaterTwice x, int begun, int room) {
            due("room(0)", x.room(0), begun);
            due("room(1)", x.room(1), room);
        }

        private static void atFirst() {
            sentence = "15: 0 at first; what it was";
            WaterTwice x = new WaterTwice();
            for (int hour = 0; hour < HOURS; hour++) {
                due("IN at first", x.store(hour, 0, 500), 0);
                due("OUT at first", x.store(hour, 1, 499), 0);
                due("IN then", x.store(hour, 0, 0), 500);
                due("OUT then", x.store(hour, 1, 0), 499);
                x.store(hour, 0, hour);
                x.store(hour, 1, 100 + hour);
            }
            for (int hour = 0; hour < HOURS; hour++) {
                due("IN kept", x.store(hour, 0, 0), hour);
                due("OUT kept", x.store(hour, 1, 0), 100 + hour);
            }
        }

        private static void inAheadOfOut() {
            sentence = "16: IN ahead of OUT";
            for (int hour = 0; hour < HOURS; hour++) {
                WaterTwice x = new WaterTwice();
                x.store(hour, 0, 500);
                x.store(hour, 1, 500);
                rooms(x, 0, 500);
                x.store(hour, 0, 499);
                rooms(x, 1, 500);
                x.store(hour, 0, 500);
                x.store(hour, 1, 499);
                rooms(x, 0, 500);
            }
        }

        private static void neverBelowZero() {
            sentence = "16: LEAST BEGUN, so that it is never below 0";
            WaterTwice x = new WaterTwice();
            x.store(1, 0, 10);
            x.store(2, 1, 10);
            rooms(x, 0, 10);
            x.store(2, 1, 11);
            rooms(x, 1, 11);
            x.store(0, 1, 5);
            rooms(x, 6, 11);
            // What comes in later does not help an HOUR ahead of it.
            x.store(3, 0, 500);
            rooms(x, 6, 500);
            x.store(0, 0, 5);
            rooms(x, 1, 500);
        }

        private static void atAnyTime() {
            sentence = "16: LEAST ROOM, the most at any time: ahead of HOUR 0";
            WaterTwice x = new WaterTwice();
            x.store(0, 1, 300);
            rooms(x, 300, 300);
            x.store(1, 0, 299);
            rooms(x, 300, 300);
            sentence = "16: LEAST ROOM, the most at any time: between IN and OUT";
            x.store(1, 0, 301);
            rooms(x, 300, 301);
            x.store(1, 1, 301);
            rooms(x, 300, 301);
        }

        private static void firstAndLastHour() {
            sentence = "16: HOURS 0 .. 23";
            WaterTwice first = new WaterTwice();
            first.store(0, 0, 7);
            rooms(first, 0, 7);
            WaterTwice last = new WaterTwice();
            last.store(23, 0, 7);
            rooms(last, 0, 7);
            last.store(23, 1, 9);
            rooms(last, 2, 9);
            sentence = "16: what HOUR 23 leaves is not there ahead of HOUR 0";
            WaterTwice around = new WaterTwice();
            around.store(23, 0, 500);
            around.store(0, 1, 500);
            rooms(around, 500, 500);
        }

        private static void most() {
            sentence = "16: the most there may be";
            for (int what = 0; what < 2; what++) {
                WaterTwice x = new WaterTwice();
                for (int hour = 0; hour < HOURS; hour++) {
                    x.store(hour, what, 500);
                }
                rooms(x, what * 12000, 12000);
            }
        }
    }

    /** Promises 17, 18, 19 and 20. */
    private static final class Meters {
        static void all() {
            sign();
            eightAtMost();
            range("18: 0 .. 100000", 0, 100000, v -> meters(5).read(0, v));
            range("18: a METER, of eight", 0, 7, v -> meters(1, 2, 3, 4, 5, 6, 7, 8).read(v, 0));
            range("18: a METER, of one", 0, 0, v -> meters(1).read(v, NONE));
            missing();
            range("19: what = 0 .. 3", 0, 3, v -> meters(1, 2, NONE).gap(v), NO);
            withoutMeters();
            overThoseThatAreNot();
            justOne();
            belowZero();
            range("20: a METER, of eight", 0, 7, v -> meters(1, 2, 3, 4, 5, 6, 7, 8).mended(v, 0), NO);
            range("20: part 0, 1", 0, 1, v -> meters(1, 2).mended(0, v), NO);
            range("20: BAD ahead of STATE: a METER", 0, 1, v -> meters(1, NONE).mended(v, 0), NO);
            range("20: BAD ahead of STATE: a part", 0, 1, v -> meters(1, NONE).mended(0, v), NO);
            state();
            fraction();
            furthest();
        }

        private static void sign() {
            sentence = "17: BAD: sign 1, -1";
            int[] others = {0, 2, -2, 255, -255, 65537, Integer.MIN_VALUE, Integer.MAX_VALUE, Integer.MIN_VALUE + 1};
            for (int sign : others) {
                WaterTwice x = new WaterTwice();
                due("meter(" + sign + ")", x.meter(sign), BAD);
                due("count", x.count(3), 0);
            }
            WaterTwice x = new WaterTwice();
            due("meter(1)", x.meter(1), 0);
            due("meter(-1)", x.meter(-1), 1);
            x.read(0, 7);
            due("what comes", x.gap(0), 7);
            x.read(1, 9);
            due("what goes", x.gap(0), -2);
        }

        private static void eightAtMost() {
            sentence = "17: METERS (8 at most)";
            WaterTwice x = new WaterTwice();
            for (int i = 0; i < MOST_METERS; i++) {
                due("its number", x.meter(-1), i);
                due("it is MISSING", x.read(i, i), NONE);
                due("count", x.count(3), i + 1);
            }
            due("a ninth", x.meter(1), FULL);
            due("a ninth", x.meter(-1), FULL);
            due("count", x.count(3), MOST_METERS);
            due("there is no ninth", x.read(8, 0), BAD);
            due("none is MISSING", x.gap(1), 0);
            due("the gap", x.gap(0), -28);
            sentence = "17: BAD ahead of FULL";
            due("meter(0)", x.meter(0), BAD);
            due("meter(2)", x.meter(2), BAD);
        }

        private static void missing() {
            sentence = "18: (NONE: it is MISSING): what it read (NONE)";
            WaterTwice x = new WaterTwice();
            x.meter(1);
            due("MISSING at first", x.read(0, NONE), NONE);
            due("still", x.read(0, 0), NONE);
            due("0 is not MISSING", x.gap(1), 0);
            due("it read 0", x.read(0, 100000), 0);
            due("it read 100000", x.read(0, NONE), 100000);
            due("MISSING again", x.gap(1), 1);
            due("it read nothing", x.read(0, 1), NONE);
            sentence = "18: below 0 NONE alone";
            for (int v : new int[] {-1, -2, -3, -8, -10, -100000}) {
                due("read(0, " + v + ")", x.read(0, v), BAD);
            }
            due("it stays", x.read(0, 1), 1);
        }

        private static void gaps(WaterTwice x, long gap, int missing, int told, long as) {
            due("gap(0)", x.gap(0), gap);
            due("gap(1)", x.gap(1), missing);
            due("gap(2)", x.gap(2), told);
            due("gap(3)", x.gap(3), as);
        }

        private static void withoutMeters() {
            sentence = "19: without METERS";
            gaps(new WaterTwice(), 0, 0, NONE, NO);
        }

        private static void overThoseThatAreNot() {
            sentence = "19: THE GAP: over those that are not MISSING";
            gaps(meters(NONE, NONE), 0, 2, NONE, NO);
            gaps(meters(100, NONE, NONE), 100, 2, NONE, NO);
            gaps(meters(NONE, 100, NONE), -100, 2, NONE, NO);
            gaps(meters(NONE, NONE, NONE, NONE, NONE, NONE, NONE, NONE), 0, 8, NONE, NO);
            sentence = "19: the greatest and the least";
            WaterTwice come = new WaterTwice();
            WaterTwice go = new WaterTwice();
            for (int i = 0; i < MOST_METERS; i++) {
                come.meter(1);
                come.read(i, 100000);
                go.meter(-1);
                go.read(i, 100000);
            }
            gaps(come, 800000, 0, NONE, NO);
            gaps(go, -800000, 0, NONE, NO);
        }

        private static void justOne() {
            sentence = "19: just one is MISSING";
            int[] readings = {1, 2, 3, 4, 5, 6, 7, 8};
            for (int m = 0; m < MOST_METERS; m++) {
                WaterTwice x = meters(readings);
                gaps(x, -4, 0, NONE, NO);
                x.read(m, NONE);
                int sign = m % 2 == 0 ? 1 : -1;
                long gap = -4 - sign * (m + 1);
                gaps(x, gap, 1, m, -sign * gap);
                x.read((m + 1) % MOST_METERS, NONE);
                due("two", x.gap(2), NONE);
                due("two, as what", x.gap(3), NO);
            }
            sentence = "19: a METER alone is TOLD as 0";
            gaps(meters(NONE), 0, 1, 0, 0);
            sentence = "19: one that is TOLD as 0 is TOLD";
            gaps(meters(5, 5, NONE), 0, 1, 2, 0);
        }

        private static void belowZero() {
            sentence = "19: (below 0 it may be)";
            gaps(meters(10, NONE, 20), 30, 1, 1, 30);
            gaps(meters(10, NONE, 20, 31), -1, 1, 1, -1);
            gaps(meters(10, 4, NONE), 6, 1, 2, -6);
            sentence = "19: the furthest there may be, past what a METER may read";
            WaterTwice x = new WaterTwice();
            for (int i = 0; i < MOST_METERS; i++) {
                x.meter(1);
                x.read(i, i == 0 ? NONE : 100000);
            }
            gaps(x, 700000, 1, 0, -700000);
            WaterTwice y = new WaterTwice();
            for (int i = 0; i < MOST_METERS; i++) {
                y.meter(i == 7 ? -1 : 1);
                y.read(i, i == 7 ? NONE : 100000);
            }
            gaps(y, 700000, 1, 7, 700000);
        }

        private static void part(WaterTwice x, int meter, long upper, long lower) {
            due("mended(" + meter + ", 0)", x.mended(meter, 0), upper);
            due("mended(" + meter + ", 1)", x.mended(meter, 1), lower);
        }

        private static void state() {
            sentence = "20: STATE: one is MISSING";
            part(meters(1, NONE), 0, NO + 1, NO + 1);
            part(meters(1, NONE), 1, NO + 1, NO + 1);
            part(meters(NONE), 0, NO + 1, NO + 1);
            part(meters(NONE, NONE, 1), 2, NO + 1, NO + 1);
            WaterTwice x = meters(3, 3);
            part(x, 0, 3, 1);
            x.meter(1);
            part(x, 0, NO + 1, NO + 1);
            x.read(2, 0);
            part(x, 0, 3, 1);
        }

        private static void fraction() {
            sentence = "20: a fraction, in least form";
            part(meters(0), 0, 0, 1);
            part(meters(100000), 0, 0, 1);
            part(meters(0, 0, 0, 0, 0, 0, 0, 0), 7, 0, 1);
            part(meters(1, 0), 0, 1, 2);
            part(meters(1, 0), 1, 1, 2);
            part(meters(0, 1), 0, 1, 2);
            part(meters(1, 0, 0, 0, 0, 0, 0, 0), 0, 7, 8);
            part(meters(2, 0, 0, 0, 0, 0, 0, 0), 0, 7, 4);
            part(meters(4, 0, 0, 0, 0, 0, 0, 0), 0, 7, 2);
            part(meters(8, 0, 0, 0, 0, 0, 0, 0), 0, 7, 1);
            sentence = "20: below 0, the lower part above 0";
            part(meters(0, 0, 1), 0, -1, 3);
            part(meters(0, 0, 6), 0, -2, 1);
            part(meters(0, 0, 0, 0, 2, 0), 2, -1, 3);
        }

        private static void furthest() {
            sentence = "20: the furthest there may be";
            WaterTwice x = new WaterTwice();
            for (int i = 0; i < MOST_METERS; i++) {
                x.meter(i == 7 ? -1 : 1);
                x.read(i, i == 7 ? 0 : 100000);
            }
            part(x, 7, 87500, 1);
            x.read(7, 100000);
            part(x, 7, 175000, 1);
            part(x, 0, 25000, 1);
            x.read(0, 0);
            part(x, 0, -62500, 1);
        }
    }

    /** Promise 21. */
    private static final class Counts {
        static void all() {
            range("21: what = 0 .. 6", 0, 6, v -> new WaterTwice().count(v));
            most();
            notZero();
        }

        private static void counts(WaterTwice x, int... want) {
            for (int what = 0; what < want.length; what++) {
                due("count(" + what + ")", x.count(what), want[what]);
            }
        }

        private static void most() {
            sentence = "21: the most there may be";
            WaterTwice x = wet(6, 100);
            for (int i = 0; i < MOST_STEPS; i++) {
                for (int j = 0; j < MOST_STEPS; j++) {
                    x.pipe(i, j, 100);
                }
            }
            for (int i = 0; i <= MOST_METERS; i++) {
                x.meter(1);
            }
            x.set(0, 100);
            x.set(1, 40);
            x.set(2, 2);
            counts(x, 5, 500, 25, 8, 100, 40, 2);
            sentence = "21: the least there may be";
            WaterTwice y = new WaterTwice();
            y.set(0, 0);
            counts(y, 0, 0, 0, 0, 0, 0, 0);
        }

        private static void notZero() {
            sentence = "21: PIPES that are not 0";
            WaterTwice x = steps(3);
            due("at first", x.count(2), 0);
            x.fresh(0, 1);
            due("F", x.count(2), 1);
            x.pipe(2, 0, 1);
            due("and G", x.count(2), 2);
            x.pipe(0, 2, 100);
            due("and G back", x.count(2), 3);
            x.fresh(0, 0);
            due("no F", x.count(2), 2);
            x.pipe(2, 0, 0);
            x.pipe(0, 2, 0);
            due("none again", x.count(2), 0);
            due("FRESH", x.count(1), 0);
        }
    }
}
