import java.util.ArrayList;
import java.util.List;
import java.util.function.Supplier;
import java.util.function.ToLongFunction;

/**
 * "Refused, and nothing changes, the first of these: BAD, STATE, FULL": each call that is refused is made on an
 * object, and all that can be asked of it is then held against a twin on which it was not made.
 */
public final class RefusedTest {
    private static final int BAD = -1, STATE = -2, FULL = -3, NONE = -9;
    private static final long NO = -1000000000000L;
    private static final int MOST_CALLS = 512;

    private static int faults = 0;

    private static void fault(String what) {
        faults++;
        System.out.println(what);
    }

    public static void main(String[] args) {
        List<Supplier<WaterTwice>> works = List.of(WaterTwice::new, RefusedTest::partWorks, RefusedTest::fullWorks);
        for (int i = 0; i < works.size(); i++) {
            badOfSteps("works " + i, works.get(i));
            badOfPipes("works " + i, works.get(i));
            badOfBasinAndStore("works " + i, works.get(i));
            badOfMeters("works " + i, works.get(i));
        }
        noSuchThing();
        state();
        full();
        System.out.println(faults == 0 ? "refused calls change nothing" : faults + " faults of refused calls");
        if (faults != 0) {
            System.exit(1);
        }
    }

    /** Works with two steps that are well, a store and two meters, of which none is missing. */
    private static WaterTwice partWorks() {
        WaterTwice x = new WaterTwice();
        x.step(10, 0, 100);
        x.step(20, 50, 200);
        x.change(1, 1, 3);
        x.fresh(0, 2);
        x.fresh(1, 1);
        x.pipe(0, 1, 1);
        x.store(3, 0, 40);
        x.store(4, 1, 70);
        x.meter(1);
        x.meter(-1);
        x.read(0, 30);
        x.read(1, 33);
        x.limit(2, 1);
        return x;
    }

    /** Works with as many steps and meters as there may be, all else set too; a meter is missing. */
    private static WaterTwice fullWorks() {
        WaterTwice x = new WaterTwice();
        for (int i = 0; i < 5; i++) {
            x.step(100 + i, 10 * i, 300 + i);
            x.change(i, 1, i + 2);
            x.fresh(i, 20 + i);
            if (i > 0) {
                x.pipe(i - 1, i, 3 + i);
            }
        }
        for (int i = 0; i < 8; i++) {
            x.meter(i < 4 ? 1 : -1);
            x.read(i, i == 5 ? NONE : 1000 * i);
        }
        x.store(0, 0, 7);
        x.store(23, 1, 90);
        x.set(0, 12);
        x.set(1, 8);
        x.set(2, 2);
        x.limit(1, 4);
        return x;
    }

    private static void refused(String name, Supplier<WaterTwice> works, long want, ToLongFunction<WaterTwice> call) {
        WaterTwice x = works.get();
        long got = call.applyAsLong(x);
        if (got != want) {
            fault(name + " answered " + got + ", due is " + want);
        }
        got = call.applyAsLong(x);
        if (got != want) {
            fault(name + " answered " + got + " the second time, due is " + want);
        }
        if (!allTold(x).equals(allTold(works.get()))) {
            fault(name + " was refused, and something changed");
        }
    }

    /** All that can be asked; what is told only by setting it is set back, but for the store and the meters. */
    private static List<Long> allTold(WaterTwice x) {
        List<Long> told = new ArrayList<>();
        told.add(x.trace());
        for (int what = 0; what < 7; what++) {
            told.add((long) x.count(what));
        }
        int steps = x.count(0);
        for (int s = 0; s < steps; s++) {
            stepOf(x, s, steps, told);
        }
        told.add((long) x.fails());
        told.add(x.least(0));
        told.add(x.least(1));
        told.add(x.least(2));
        for (int at : new int[] {1, 20, 60, 150, 302, 500}) {
            told.add(x.dirt(at, 0));
            told.add(x.dirt(at, 1));
        }
        told.add((long) x.room(0));
        told.add((long) x.room(1));
        for (int hour = 0; hour < 24; hour++) {
            told.add((long) x.store(hour, 0, 0));
            told.add((long) x.store(hour, 1, 0));
        }
        for (int what = 0; what < 4; what++) {
            told.add(x.gap(what));
        }
        int meters = x.count(3);
        for (int m = 0; m < meters; m++) {
            told.add(x.mended(m, 0));
            told.add((long) x.read(m, 0));
            told.add(x.gap(0));
        }
        told.add((long) told.size());
        if (told.size() > MOST_CALLS / 2) {
            fault("too much is asked of one object: " + told.size());
        }
        return told;
    }

    private static void stepOf(WaterTwice x, int s, int steps, List<Long> told) {
        told.add((long) x.limit(0, s));
        told.add((long) x.limit(2, s));
        told.add((long) x.water(s, 0));
        told.add((long) x.water(s, 1));
        told.add(x.at(s, 0));
        told.add(x.at(s, 1));
        told.add((long) x.hit(0, 0, s));
        int load = x.change(s, 0, 1);
        x.change(s, 0, load);
        told.add((long) load);
        int lag = x.change(s, 1, 1);
        x.change(s, 1, lag);
        told.add((long) lag);
        int fresh = x.fresh(s, 0);
        x.fresh(s, fresh);
        told.add((long) fresh);
        for (int t = 0; t < steps; t++) {
            if (t != s) {
                int pipe = x.pipe(s, t, 0);
                x.pipe(s, t, pipe);
                told.add((long) pipe);
            }
        }
    }

    private static void badOfSteps(String name, Supplier<WaterTwice> w) {
        refused(name + ": step, load 0", w, BAD, x -> x.step(0, 0, 1));
        refused(name + ": step, load 1001", w, BAD, x -> x.step(1001, 0, 1));
        refused(name + ": step, in -1", w, BAD, x -> x.step(1, -1, 1));
        refused(name + ": step, in 401", w, BAD, x -> x.step(1, 401, 500));
        refused(name + ": step, out 0", w, BAD, x -> x.step(1, 0, 0));
        refused(name + ": step, out 501", w, BAD, x -> x.step(1, 0, 501));
        refused(name + ": step, out as in", w, BAD, x -> x.step(1, 400, 400));
        refused(name + ": step, out below in", w, BAD, x -> x.step(1, 400, 399));
        refused(name + ": change, no such step", w, BAD, x -> x.change(x.count(0), 0, 1));
        refused(name + ": change, step -1", w, BAD, x -> x.change(-1, 1, 1));
        refused(name + ": change, what -1", w, BAD, x -> x.change(0, -1, 1));
        refused(name + ": change, what 2", w, BAD, x -> x.change(0, 2, 1));
        refused(name + ": change, load 0", w, BAD, x -> x.change(0, 0, 0));
        refused(name + ": change, load 1001", w, BAD, x -> x.change(0, 0, 1001));
        refused(name + ": change, lag -1", w, BAD, x -> x.change(0, 1, -1));
        refused(name + ": change, lag 10", w, BAD, x -> x.change(0, 1, 10));
        refused(name + ": set, what -1", w, BAD, x -> x.set(-1, 1));
        refused(name + ": set, what 3", w, BAD, x -> x.set(3, 1));
        refused(name + ": set, margin -1", w, BAD, x -> x.set(0, -1));
        refused(name + ": set, margin 101", w, BAD, x -> x.set(0, 101));
        refused(name + ": set, years -1", w, BAD, x -> x.set(1, -1));
        refused(name + ": set, years 41", w, BAD, x -> x.set(1, 41));
        refused(name + ": set, kind -1", w, BAD, x -> x.set(2, -1));
        refused(name + ": set, kind 3", w, BAD, x -> x.set(2, 3));
        refused(name + ": limit, kind -1", w, BAD, x -> x.limit(-1, 0));
        refused(name + ": limit, kind 3", w, BAD, x -> x.limit(3, 0));
        refused(name + ": limit, step -1", w, BAD, x -> x.limit(2, -1));
        refused(name + ": limit, no such step", w, BAD, x -> x.limit(2, x.count(0)));
        refused(name + ": dirt, x 0", w, BAD, x -> x.dirt(0, 0));
        refused(name + ": dirt, x 501", w, BAD, x -> x.dirt(501, 0));
        refused(name + ": dirt, part -1", w, BAD, x -> x.dirt(1, -1));
        refused(name + ": dirt, part 2", w, BAD, x -> x.dirt(1, 2));
        refused(name + ": least, what -1", w, BAD, x -> x.least(-1));
        refused(name + ": least, what 3", w, BAD, x -> x.least(3));
    }

    private static void badOfPipes(String name, Supplier<WaterTwice> w) {
        refused(name + ": fresh, step -1", w, BAD, x -> x.fresh(-1, 5));
        refused(name + ": fresh, no such step", w, BAD, x -> x.fresh(x.count(0), 5));
        refused(name + ": fresh, -1", w, BAD, x -> x.fresh(0, -1));
        refused(name + ": fresh, 101", w, BAD, x -> x.fresh(0, 101));
        refused(name + ": pipe, from -1", w, BAD, x -> x.pipe(-1, 0, 5));
        refused(name + ": pipe, from no such step", w, BAD, x -> x.pipe(x.count(0), 0, 5));
        refused(name + ": pipe, to -1", w, BAD, x -> x.pipe(0, -1, 5));
        refused(name + ": pipe, to no such step", w, BAD, x -> x.pipe(0, x.count(0), 5));
        refused(name + ": pipe, one and the same", w, BAD, x -> x.pipe(0, 0, 5));
        refused(name + ": pipe, -1", w, BAD, x -> x.pipe(0, 1, -1));
        refused(name + ": pipe, 101", w, BAD, x -> x.pipe(0, 1, 101));
        refused(name + ": water, step -1", w, BAD, x -> x.water(-1, 0));
        refused(name + ": water, no such step", w, BAD, x -> x.water(x.count(0), 0));
        refused(name + ": water, what -1", w, BAD, x -> x.water(0, -1));
        refused(name + ": water, what 2", w, BAD, x -> x.water(0, 2));
        refused(name + ": at, step -1", w, BAD, x -> x.at(-1, 0));
        refused(name + ": at, no such step", w, BAD, x -> x.at(x.count(0), 0));
        refused(name + ": at, part -1", w, BAD, x -> x.at(0, -1));
        refused(name + ": at, part 2", w, BAD, x -> x.at(0, 2));
        refused(name + ": hit, from -1", w, BAD, x -> x.hit(-1, 0, 0));
        refused(name + ": hit, from no such step", w, BAD, x -> x.hit(x.count(0), 0, 0));
        refused(name + ": hit, h -1", w, BAD, x -> x.hit(0, -1, 0));
        refused(name + ": hit, h 1001", w, BAD, x -> x.hit(0, 1001, 0));
        refused(name + ": hit, step -1", w, BAD, x -> x.hit(0, 0, -1));
        refused(name + ": hit, no such step", w, BAD, x -> x.hit(0, 0, x.count(0)));
    }

    private static void badOfBasinAndStore(String name, Supplier<WaterTwice> w) {
        refused(name + ": steady, v 0", w, BAD, x -> x.steady(0, 0, 0, 0, 0));
        refused(name + ": steady, v 1001", w, BAD, x -> x.steady(1001, 0, 0, 0, 0));
        refused(name + ": steady, d -1", w, BAD, x -> x.steady(5, -1, 0, 0, 0));
        refused(name + ": steady, d 1000001", w, BAD, x -> x.steady(5, 1000001, 0, 0, 0));
        refused(name + ": steady, l -1", w, BAD, x -> x.steady(5, 0, -1, 0, 0));
        refused(name + ": steady, l 1001", w, BAD, x -> x.steady(5, 0, 1001, 0, 0));
        refused(name + ": steady, b -1", w, BAD, x -> x.steady(5, 0, 0, -1, 0));
        refused(name + ": steady, b above v", w, BAD, x -> x.steady(5, 0, 0, 6, 0));
        refused(name + ": steady, what -1", w, BAD, x -> x.steady(5, 0, 0, 0, -1));
        refused(name + ": steady, what 2", w, BAD, x -> x.steady(5, 0, 0, 0, 2));
        refused(name + ": steady, what 2 of one that is never steady", w, BAD, x -> x.steady(5, 0, 1, 0, 2));
        refused(name + ": store, hour -1", w, BAD, x -> x.store(-1, 0, 5));
        refused(name + ": store, hour 24", w, BAD, x -> x.store(24, 1, 5));
        refused(name + ": store, what -1", w, BAD, x -> x.store(0, -1, 5));
        refused(name + ": store, what 2", w, BAD, x -> x.store(0, 2, 5));
        refused(name + ": store, in -1", w, BAD, x -> x.store(0, 0, -1));
        refused(name + ": store, in 501", w, BAD, x -> x.store(0, 0, 501));
        refused(name + ": store, out -1", w, BAD, x -> x.store(23, 1, -1));
        refused(name + ": store, out 501", w, BAD, x -> x.store(23, 1, 501));
        refused(name + ": room, what -1", w, BAD, x -> x.room(-1));
        refused(name + ": room, what 2", w, BAD, x -> x.room(2));
    }

    private static void badOfMeters(String name, Supplier<WaterTwice> w) {
        refused(name + ": meter, sign 0", w, BAD, x -> x.meter(0));
        refused(name + ": meter, sign 2", w, BAD, x -> x.meter(2));
        refused(name + ": meter, sign -2", w, BAD, x -> x.meter(-2));
        refused(name + ": read, meter -1", w, BAD, x -> x.read(-1, 5));
        refused(name + ": read, no such meter", w, BAD, x -> x.read(x.count(3), 5));
        refused(name + ": read, no such meter is missing", w, BAD, x -> x.read(x.count(3), NONE));
        refused(name + ": read, -1", w, BAD, x -> x.read(0, -1));
        refused(name + ": read, -8", w, BAD, x -> x.read(0, -8));
        refused(name + ": read, -10", w, BAD, x -> x.read(0, -10));
        refused(name + ": read, 100001", w, BAD, x -> x.read(0, 100001));
        refused(name + ": gap, what -1", w, NO, x -> x.gap(-1));
        refused(name + ": gap, what 4", w, NO, x -> x.gap(4));
        refused(name + ": mended, meter -1", w, NO, x -> x.mended(-1, 0));
        refused(name + ": mended, no such meter", w, NO, x -> x.mended(x.count(3), 0));
        refused(name + ": mended, part -1", w, NO, x -> x.mended(0, -1));
        refused(name + ": mended, part 2", w, NO, x -> x.mended(0, 2));
        refused(name + ": count, what -1", w, BAD, x -> x.count(-1));
        refused(name + ": count, what 7", w, BAD, x -> x.count(7));
    }

    /** What is refused of a thing that is not there stays so, and is at its first numbers once it comes. */
    private static void noSuchThing() {
        WaterTwice x = new WaterTwice();
        x.step(1, 0, 500);
        x.fresh(1, 100);
        x.pipe(0, 1, 100);
        x.pipe(1, 0, 100);
        x.change(1, 0, 77);
        x.change(1, 1, 9);
        x.step(2, 0, 500);
        x.meter(1);
        x.read(1, 5);
        x.meter(1);
        long[] got = {x.water(0, 0), x.water(1, 0), x.count(2), x.change(1, 0, 1), x.change(1, 1, 1), x.read(1, 5)};
        long[] want = {0, 0, 0, 2, 1, NONE};
        for (int i = 0; i < got.length; i++) {
            if (got[i] != want[i]) {
                fault("a new thing, " + i + " answered " + got[i] + ", due is " + want[i]);
            }
        }
    }

    private static WaterTwice dry() {
        WaterTwice x = partWorks();
        x.fresh(0, 0);
        return x;
    }

    private static WaterTwice overdrawn() {
        WaterTwice x = partWorks();
        x.pipe(0, 1, 3);
        return x;
    }

    private static WaterTwice ring() {
        WaterTwice x = partWorks();
        x.pipe(1, 0, 1);
        return x;
    }

    private static void state() {
        List<Supplier<WaterTwice>> failing = List.of(RefusedTest::dry, RefusedTest::overdrawn, RefusedTest::ring);
        for (int i = 0; i < failing.size(); i++) {
            String name = "fails by " + (i + 1);
            refused(name + ": at", failing.get(i), STATE, x -> x.at(1, 0));
            refused(name + ": at, BAD first, part", failing.get(i), BAD, x -> x.at(1, 2));
            refused(name + ": at, BAD first, step", failing.get(i), BAD, x -> x.at(2, 0));
        }
        refused("one is missing: mended", RefusedTest::fullWorks, NO + 1, x -> x.mended(0, 0));
        refused("it is missing: mended", RefusedTest::fullWorks, NO + 1, x -> x.mended(5, 1));
        refused("one is missing: BAD first, part", RefusedTest::fullWorks, NO, x -> x.mended(5, 2));
        refused("one is missing: BAD first, meter", RefusedTest::fullWorks, NO, x -> x.mended(8, 0));
        refused("none is told: gap", RefusedTest::partWorks, NO, x -> x.gap(3));
    }

    private static void full() {
        refused("full: step", RefusedTest::fullWorks, FULL, x -> x.step(1, 0, 1));
        refused("full: step, the greatest", RefusedTest::fullWorks, FULL, x -> x.step(1000, 400, 500));
        refused("full: meter", RefusedTest::fullWorks, FULL, x -> x.meter(1));
        refused("full: meter of what goes", RefusedTest::fullWorks, FULL, x -> x.meter(-1));
    }
}
