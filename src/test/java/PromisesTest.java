/** Each promise by itself: ordinary inputs, the edges that the document names, and wrong inputs. */
public final class PromisesTest {
    private static final int BAD = -1, STATE = -2, FULL = -3, NONE = -9;
    private static final long NO = -1000000000000L;
    private static final int[] WILD = {Integer.MIN_VALUE, -1000, -10, -1, 1 << 20, Integer.MAX_VALUE};

    private static int wrong = 0;

    private static void due(String call, long got, long want) {
        if (got != want) {
            wrong++;
            System.out.println(call + " answered " + got + ", due is " + want);
        }
    }

    public static void main(String[] args) {
        newObject();
        step();
        change();
        set();
        limit();
        dirt();
        least();
        fresh();
        pipe();
        water();
        failsByEachLaw();
        failsByFirstLawAndLeastStep();
        failsByKindAtHand();
        at();
        hit();
        steady();
        store();
        room();
        meter();
        read();
        gap();
        mended();
        count();
        trace();
        wildNumbers();
        objectsApart();
        System.out.println(wrong == 0 ? "all answers are as due" : wrong + " answers are not as due");
        if (wrong != 0) {
            System.exit(1);
        }
    }

    private static void newObject() {
        WaterTwice x = new WaterTwice();
        int[] first = {0, 0, 0, 0, 10, 0, 0};
        for (int what = 0; what < first.length; what++) {
            due("1: count(" + what + ")", x.count(what), first[what]);
        }
        due("1: trace", x.trace(), 0);
        due("1: fails", x.fails(), 0);
        due("1: room 0", x.room(0), 0);
        due("1: room 1", x.room(1), 0);
        due("1: gap", x.gap(0), 0);
        due("1: dirt upper", x.dirt(500, 0), 0);
        due("1: dirt lower", x.dirt(500, 1), 1);
        due("1: limit of no step", x.limit(0, 0), BAD);
        for (int hour = 0; hour < 24; hour++) {
            due("1: store in", x.store(hour, 0, 0), 0);
            due("1: store out", x.store(hour, 1, 0), 0);
        }
    }

    private static void step() {
        WaterTwice x = new WaterTwice();
        due("2: load 0", x.step(0, 0, 1), BAD);
        due("2: load 1001", x.step(1001, 0, 1), BAD);
        due("2: in -1", x.step(1, -1, 1), BAD);
        due("2: in 401", x.step(1, 401, 402), BAD);
        due("2: out 0", x.step(1, 0, 0), BAD);
        due("2: out 501", x.step(1, 0, 501), BAD);
        due("2: out as in", x.step(1, 400, 400), BAD);
        due("2: out below in", x.step(1, 10, 9), BAD);
        due("2: none came", x.count(0), 0);
        due("2: least", x.step(1, 0, 1), 0);
        due("2: most", x.step(1000, 400, 500), 1);
        due("2: one above", x.step(5, 400, 401), 2);
        due("2: third", x.step(5, 0, 500), 3);
        due("2: fourth", x.step(5, 0, 500), 4);
        due("2: sixth", x.step(5, 0, 500), FULL);
        due("2: bad ahead of full", x.step(0, 0, 500), BAD);
        due("2: five", x.count(0), 5);
        due("2: lag at first", x.change(4, 1, 1), 1);
    }

    private static void change() {
        WaterTwice x = new WaterTwice();
        due("3: no step", x.change(0, 0, 1), BAD);
        x.step(7, 0, 10);
        x.step(8, 0, 10);
        due("3: load", x.change(1, 0, 1000), 8);
        due("3: load back", x.change(1, 0, 1), 1000);
        due("3: the other's load", x.change(0, 0, 7), 7);
        due("3: load 0", x.change(0, 0, 0), BAD);
        due("3: load 1001", x.change(0, 0, 1001), BAD);
        due("3: lag", x.change(0, 1, 9), 1);
        due("3: lag back", x.change(0, 1, 0), 9);
        due("3: lag 10", x.change(0, 1, 10), BAD);
        due("3: lag -1", x.change(0, 1, -1), BAD);
        due("3: what 2", x.change(0, 2, 1), BAD);
        due("3: what -1", x.change(0, -1, 1), BAD);
        due("3: step 2", x.change(2, 0, 1), BAD);
        due("3: step -1", x.change(-1, 0, 1), BAD);
        due("3: the lag stays", x.change(0, 1, 5), 0);
        due("3: the load stays", x.change(0, 0, 5), 7);
        due("3: dirt by the new load", x.dirt(10, 0), 6);
    }

    private static void set() {
        WaterTwice x = new WaterTwice();
        int[] first = {10, 0, 0};
        int[] most = {100, 40, 2};
        for (int what = 0; what < 3; what++) {
            due("4: most", x.set(what, most[what]), first[what]);
            due("4: above", x.set(what, most[what] + 1), BAD);
            due("4: below", x.set(what, -1), BAD);
            due("4: it stays", x.count(4 + what), most[what]);
            due("4: least", x.set(what, 0), most[what]);
            due("4: told", x.count(4 + what), 0);
        }
        due("4: what 3", x.set(3, 0), BAD);
        due("4: what -1", x.set(-1, 0), BAD);
    }

    private static void limit() {
        WaterTwice x = new WaterTwice();
        x.step(1, 100, 300);
        x.step(1, 100, 105);
        x.set(1, 7);
        due("5: plain", x.limit(0, 0), 300);
        due("5: safe", x.limit(1, 0), 290);
        due("5: old", x.limit(2, 0), 276);
        due("5: plain, narrow", x.limit(0, 1), 105);
        due("5: safe, narrow", x.limit(1, 1), 101);
        due("5: old, narrow", x.limit(2, 1), 101);
        x.set(0, 4);
        due("5: safe just there", x.limit(1, 1), 101);
        x.set(0, 3);
        due("5: safe just above", x.limit(1, 1), 102);
        due("5: old below safe", x.limit(2, 1), 101);
        due("5: kind 3", x.limit(3, 0), BAD);
        due("5: kind -1", x.limit(-1, 0), BAD);
        due("5: step 2", x.limit(0, 2), BAD);
        due("5: step -1", x.limit(0, -1), BAD);
    }

    private static void dirt() {
        WaterTwice x = new WaterTwice();
        x.step(10, 0, 7);
        x.step(5, 3, 9);
        due("6: one of them, upper", x.dirt(1, 0), 10);
        due("6: one of them, lower", x.dirt(1, 1), 7);
        due("6: at in of the other", x.dirt(3, 0), 30);
        due("6: both, upper", x.dirt(5, 0), 185);
        due("6: both, lower", x.dirt(5, 1), 21);
        due("6: all, upper", x.dirt(9, 0), 15);
        due("6: all, lower", x.dirt(9, 1), 1);
        due("6: at 500", x.dirt(500, 0), 15);
        due("6: x 0", x.dirt(0, 0), BAD);
        due("6: x 501", x.dirt(501, 1), BAD);
        due("6: part 2", x.dirt(1, 2), BAD);
        due("6: part -1", x.dirt(1, -1), BAD);
        WaterTwice y = new WaterTwice();
        y.step(10, 50, 60);
        due("6: nothing below in, upper", y.dirt(50, 0), 0);
        due("6: nothing below in, lower", y.dirt(50, 1), 1);
    }

    private static void least() {
        WaterTwice x = new WaterTwice();
        due("7: without steps, upper", x.least(0), 0);
        due("7: without steps, lower", x.least(1), 1);
        due("7: without steps, pinch", x.least(2), NONE);
        due("7: what 3", x.least(3), BAD);
        due("7: what -1", x.least(-1), BAD);
        x.step(100, 0, 200);
        due("7: half a ton, upper", x.least(0), 1);
        due("7: half a ton, lower", x.least(1), 2);
        due("7: pinch at out", x.least(2), 200);
        x.step(1, 100, 400);
        due("7: pinch with a small one beside it", x.least(2), 200);
        WaterTwice y = new WaterTwice();
        y.step(100, 0, 100);
        y.step(100, 100, 200);
        due("7: pinch of two alike", y.least(2), 100);
        due("7: of two alike, upper", y.least(0), 1);
        WaterTwice z = new WaterTwice();
        z.step(200, 100, 200);
        z.step(100, 0, 100);
        due("7: later x with more", z.least(2), 200);
        due("7: later x with more, upper", z.least(0), 3);
        due("7: later x with more, lower", z.least(1), 2);
        z.set(2, 2);
        z.set(0, 50);
        due("7: told from OUT, not from a lower limit", z.least(2), 200);
    }

    private static void fresh() {
        WaterTwice x = new WaterTwice();
        due("8: no step", x.fresh(0, 1), BAD);
        x.step(1, 0, 1);
        due("8: at first", x.fresh(0, 100), 0);
        due("8: then", x.fresh(0, 0), 100);
        due("8: above", x.fresh(0, 101), BAD);
        due("8: below", x.fresh(0, -1), BAD);
        due("8: step 1", x.fresh(1, 1), BAD);
        due("8: step -1", x.fresh(-1, 1), BAD);
        due("8: it stays", x.fresh(0, 3), 0);
        due("8: water", x.water(0, 0), 3);
    }

    private static void pipe() {
        WaterTwice x = new WaterTwice();
        due("9: no steps", x.pipe(0, 1, 1), BAD);
        x.step(1, 0, 1);
        due("9: one step", x.pipe(0, 1, 1), BAD);
        x.step(1, 0, 1);
        due("9: at first", x.pipe(0, 1, 100), 0);
        due("9: the way back is another", x.pipe(1, 0, 7), 0);
        due("9: then", x.pipe(0, 1, 0), 100);
        due("9: same", x.pipe(1, 1, 1), BAD);
        due("9: above", x.pipe(0, 1, 101), BAD);
        due("9: below", x.pipe(0, 1, -1), BAD);
        due("9: from 2", x.pipe(2, 1, 1), BAD);
        due("9: to 2", x.pipe(1, 2, 1), BAD);
        due("9: from -1", x.pipe(-1, 1, 1), BAD);
        due("9: to -1", x.pipe(1, -1, 1), BAD);
        due("9: it stays", x.pipe(0, 1, 5), 0);
        due("9: the other stays", x.pipe(1, 0, 0), 7);
    }

    private static void water() {
        WaterTwice x = new WaterTwice();
        for (int i = 0; i < 5; i++) {
            x.step(1, 0, 1);
        }
        x.fresh(2, 100);
        for (int from = 0; from < 5; from++) {
            x.pipe(from, 2, 100);
        }
        x.pipe(2, 0, 3);
        x.pipe(2, 4, 4);
        due("10: all to one", x.water(2, 0), 500);
        due("10: from it", x.water(2, 1), 7);
        due("10: to another", x.water(4, 0), 4);
        due("10: from another", x.water(4, 1), 100);
        due("10: none", x.water(1, 0), 0);
        due("10: what 2", x.water(0, 2), BAD);
        due("10: what -1", x.water(0, -1), BAD);
        due("10: step 5", x.water(5, 0), BAD);
        due("10: step -1", x.water(-1, 0), BAD);
    }

    private static void failsByEachLaw() {
        WaterTwice x = new WaterTwice();
        x.step(10, 0, 10);
        x.step(10, 5, 20);
        due("11: law 1", x.fails(), 10);
        x.fresh(0, 1);
        due("11: law 1 of the next", x.fails(), 11);
        x.pipe(0, 1, 2);
        due("11: law 2", x.fails(), 20);
        x.pipe(0, 1, 1);
        due("11: law 4", x.fails(), 41);
        x.fresh(1, 1);
        due("11: well at both edges", x.fails(), 0);
        x.change(1, 0, 30);
        due("11: just at OUT", x.fails(), 0);
        x.change(1, 0, 31);
        due("11: law 5", x.fails(), 51);
        x.change(0, 0, 11);
        due("11: law 4 ahead of law 5 of a lesser step", x.fails(), 41);
        x.pipe(1, 0, 1);
        due("11: law 3", x.fails(), 30);
    }

    private static void failsByFirstLawAndLeastStep() {
        WaterTwice x = new WaterTwice();
        for (int i = 0; i < 5; i++) {
            x.step(1, 0, 500);
            x.fresh(i, 1);
        }
        x.pipe(2, 3, 1);
        x.pipe(3, 2, 1);
        x.pipe(3, 1, 1);
        due("11: one fed by a ring is never taken", x.fails(), 31);
        due("11: at, with a ring elsewhere", x.at(0, 0), STATE);
        x.pipe(4, 0, 2);
        due("11: law 2 ahead of law 3", x.fails(), 24);
        x.pipe(4, 0, 1);
        due("11: law 2 holds where all goes on", x.fails(), 31);
        x.pipe(3, 2, 0);
        due("11: law 4 of the least", x.fails(), 40);
        x.fresh(4, 0);
        due("11: law 1 ahead of all", x.fails(), 14);
    }

    private static void failsByKindAtHand() {
        WaterTwice x = new WaterTwice();
        x.step(25, 0, 30);
        x.fresh(0, 1);
        due("11: plain", x.fails(), 0);
        x.set(2, 1);
        due("11: safe", x.fails(), 50);
        x.set(0, 5);
        due("11: safe, just at it", x.fails(), 0);
        x.set(1, 1);
        due("11: years do not touch safe", x.fails(), 0);
        x.set(2, 2);
        due("11: old", x.fails(), 50);
        due("11: no trace", x.trace(), 0);
        // A lower part that is not 1: 76 by 3 is above 25.
        WaterTwice y = new WaterTwice();
        y.step(76, 0, 25);
        y.fresh(0, 3);
        due("11: just above", y.fails(), 50);
        y.change(0, 0, 75);
        due("11: just at", y.fails(), 0);
    }

    private static void at() {
        WaterTwice x = new WaterTwice();
        due("12: no step", x.at(0, 0), BAD);
        x.step(10, 0, 10);
        x.step(7, 0, 10);
        due("12: law 1", x.at(0, 0), STATE);
        due("12: bad ahead of state", x.at(2, 0), BAD);
        due("12: bad part ahead of state", x.at(0, 2), BAD);
        due("12: part -1", x.at(0, -1), BAD);
        x.fresh(1, 4);
        x.pipe(1, 0, 3);
        x.fresh(0, 6);
        due("12: of 1, upper", x.at(1, 0), 7);
        due("12: of 1, lower", x.at(1, 1), 4);
        due("12: of 0, upper", x.at(0, 0), 61);
        due("12: of 0, lower", x.at(0, 1), 36);
        due("12: it fails by law 4 all the same", x.fails(), 40);
        x.pipe(1, 0, 5);
        due("12: law 2", x.at(1, 0), STATE);
        x.pipe(1, 0, 3);
        x.pipe(0, 1, 1);
        due("12: law 3", x.at(1, 0), STATE);
        x.pipe(0, 1, 0);
        due("12: of 0 again", x.at(0, 0), 61);
        x.step(1, 0, 1);
        due("12: law 1 by a new step", x.at(0, 0), STATE);
    }

    private static void hit() {
        WaterTwice x = new WaterTwice();
        due("13: no step", x.hit(0, 0, 0), BAD);
        for (int i = 0; i < 5; i++) {
            x.step(1, 0, 1);
        }
        x.pipe(4, 3, 1);
        x.pipe(3, 2, 1);
        x.pipe(2, 1, 1);
        x.pipe(1, 0, 1);
        due("13: along all", x.hit(4, 1000, 0), 1004);
        due("13: itself", x.hit(4, 0, 4), 0);
        due("13: against the pipes", x.hit(0, 0, 4), NONE);
        x.change(2, 1, 9);
        due("13: a slow one", x.hit(4, 0, 0), 12);
        x.pipe(4, 1, 1);
        due("13: past it", x.hit(4, 0, 0), 2);
        due("13: the slow one", x.hit(4, 0, 2), 10);
        x.change(4, 1, 5);
        due("13: its own lag is not its", x.hit(4, 0, 0), 2);
        x.pipe(0, 4, 1);
        due("13: in a ring, itself at once", x.hit(4, 3, 4), 3);
        due("13: in a ring, from 0", x.hit(0, 3, 4), 8);
        x.pipe(0, 4, 0);
        x.change(1, 1, 0);
        x.change(0, 1, 0);
        x.pipe(0, 1, 1);
        x.pipe(4, 1, 0);
        x.pipe(2, 1, 0);
        due("13: a ring without lag that nothing reaches", x.hit(4, 3, 0), NONE);
        due("13: in a ring without lag", x.hit(0, 3, 1), 3);
        due("13: from 5", x.hit(5, 0, 0), BAD);
        due("13: from -1", x.hit(-1, 0, 0), BAD);
        due("13: step 5", x.hit(0, 0, 5), BAD);
        due("13: step -1", x.hit(0, 0, -1), BAD);
        due("13: h 1001", x.hit(0, 1001, 0), BAD);
        due("13: h -1", x.hit(0, -1, 0), BAD);
    }

    private static void steady() {
        WaterTwice x = new WaterTwice();
        due("14: hour", x.steady(10, 0, 10, 5, 0), 4);
        due("14: dirt", x.steady(10, 0, 10, 5, 1), 9);
        due("14: rounded up", x.steady(1000, 1, 0, 1, 1), 0);
        due("14: rounded up, hour", x.steady(1000, 3, 0, 1, 0), 3);
        due("14: all let off", x.steady(1000, 1000000, 1000, 1000, 1), 0);
        due("14: all let off, hour", x.steady(1000, 1000000, 1000, 1000, 0), 1);
        due("14: nothing comes or goes", x.steady(1, 1000000, 0, 0, 1), 1000000);
        due("14: it only grows", x.steady(1, 0, 1, 0, 1), NONE);
        due("14: the last hour", x.steady(1000, leastGoneBehind(5000), 0, 1, 0), 5000);
        due("14: the last hour, dirt", x.steady(1000, leastGoneBehind(5000), 0, 1, 1), 0);
        due("14: an hour more", x.steady(1000, leastGoneBehind(5001), 0, 1, 0), NONE);
        due("14: an hour more, dirt", x.steady(1000, leastGoneBehind(5001), 0, 1, 1), NONE);
        due("14: v 0", x.steady(0, 0, 0, 0, 0), BAD);
        due("14: v 1001", x.steady(1001, 0, 0, 0, 0), BAD);
        due("14: d -1", x.steady(1, -1, 0, 0, 0), BAD);
        due("14: d above", x.steady(1, 1000001, 0, 0, 0), BAD);
        due("14: l -1", x.steady(1, 0, -1, 0, 0), BAD);
        due("14: l 1001", x.steady(1, 0, 1001, 0, 0), BAD);
        due("14: b -1", x.steady(1, 0, 0, -1, 0), BAD);
        due("14: b above v", x.steady(3, 0, 0, 4, 0), BAD);
        due("14: b as v", x.steady(3, 0, 0, 3, 0), 1);
        due("14: what 2", x.steady(1, 0, 0, 0, 2), BAD);
        due("14: what -1", x.steady(1, 0, 0, 0, -1), BAD);
    }

    /** The least dirt in 1000 tons, 1 of them let off an hour, that is first gone behind that hour. */
    private static int leastGoneBehind(int hours) {
        int dirt = 0;
        for (int hour = 0; hour < hours; hour++) {
            int ahead = dirt + 1;
            while (ahead - (ahead + 999) / 1000 < dirt) {
                ahead++;
            }
            dirt = ahead;
        }
        return dirt;
    }

    private static void store() {
        WaterTwice x = new WaterTwice();
        due("15: in", x.store(0, 0, 500), 0);
        due("15: out", x.store(0, 1, 499), 0);
        due("15: in, then", x.store(0, 0, 0), 500);
        due("15: out, then", x.store(0, 1, 0), 499);
        due("15: last hour", x.store(23, 1, 1), 0);
        due("15: hour 24", x.store(24, 0, 0), BAD);
        due("15: hour -1", x.store(-1, 0, 0), BAD);
        due("15: what 2", x.store(0, 2, 0), BAD);
        due("15: what -1", x.store(0, -1, 0), BAD);
        due("15: above", x.store(0, 0, 501), BAD);
        due("15: below", x.store(0, 1, -1), BAD);
        due("15: it stays", x.store(23, 1, 0), 1);
    }

    private static void room() {
        WaterTwice x = new WaterTwice();
        x.store(5, 0, 70);
        x.store(5, 1, 70);
        due("16: in ahead of out", x.room(0), 0);
        due("16: room for what goes at once", x.room(1), 70);
        x.store(3, 1, 20);
        due("16: begun", x.room(0), 20);
        due("16: room", x.room(1), 70);
        x.store(23, 1, 90);
        due("16: begun for the last hour", x.room(0), 110);
        due("16: room with it", x.room(1), 160);
        WaterTwice y = new WaterTwice();
        for (int hour = 0; hour < 24; hour++) {
            y.store(hour, 1, 500);
        }
        due("16: all out, begun", y.room(0), 12000);
        due("16: all out, room", y.room(1), 12000);
        due("16: what 2", y.room(2), BAD);
        due("16: what -1", y.room(-1), BAD);
    }

    private static void meter() {
        WaterTwice x = new WaterTwice();
        due("17: sign 0", x.meter(0), BAD);
        due("17: sign 2", x.meter(2), BAD);
        due("17: sign -2", x.meter(-2), BAD);
        for (int i = 0; i < 8; i++) {
            due("17: meter", x.meter(i % 2 == 0 ? 1 : -1), i);
            due("17: missing", x.gap(1), i + 1);
        }
        due("17: ninth", x.meter(1), FULL);
        due("17: bad ahead of full", x.meter(0), BAD);
        due("17: eight", x.count(3), 8);
    }

    private static void read() {
        WaterTwice x = new WaterTwice();
        due("18: no meter", x.read(0, 0), BAD);
        x.meter(1);
        due("18: at first", x.read(0, 0), NONE);
        due("18: least", x.read(0, 100000), 0);
        due("18: most", x.read(0, NONE), 100000);
        due("18: missing", x.read(0, 5), NONE);
        due("18: above", x.read(0, 100001), BAD);
        due("18: below", x.read(0, -1), BAD);
        due("18: next to none", x.read(0, -8), BAD);
        due("18: next to none", x.read(0, -10), BAD);
        due("18: meter 1", x.read(1, 0), BAD);
        due("18: meter -1", x.read(-1, 0), BAD);
        due("18: meter 1 missing", x.read(1, NONE), BAD);
        due("18: it stays", x.read(0, 5), 5);
    }

    private static void gap() {
        WaterTwice x = new WaterTwice();
        due("19: none is told", x.gap(2), NONE);
        due("19: as nothing", x.gap(3), NO);
        x.meter(-1);
        x.meter(1);
        x.meter(-1);
        due("19: two or more missing", x.gap(2), NONE);
        due("19: two or more missing, as nothing", x.gap(3), NO);
        x.read(0, 30);
        due("19: missing", x.gap(1), 2);
        due("19: gap of what there is", x.gap(0), -30);
        x.read(1, 10);
        due("19: told", x.gap(2), 2);
        due("19: told below 0", x.gap(3), -20);
        x.read(1, 100);
        due("19: told above 0", x.gap(3), 70);
        x.read(2, 1);
        due("19: gap", x.gap(0), 69);
        due("19: none missing", x.gap(1), 0);
        due("19: none told", x.gap(2), NONE);
        due("19: none told, as nothing", x.gap(3), NO);
        due("19: what 4", x.gap(4), NO);
        due("19: what -1", x.gap(-1), NO);
    }

    private static void mended() {
        WaterTwice x = new WaterTwice();
        due("20: no meter", x.mended(0, 0), NO);
        x.meter(1);
        due("20: missing", x.mended(0, 0), NO + 1);
        due("20: bad ahead of state", x.mended(1, 0), NO);
        due("20: bad part ahead of state", x.mended(0, 2), NO);
        due("20: part -1", x.mended(0, -1), NO);
        due("20: meter -1", x.mended(-1, 0), NO);
        x.read(0, 7);
        due("20: alone it is 0", x.mended(0, 0), 0);
        due("20: alone it is 0 by 1", x.mended(0, 1), 1);
        x.meter(-1);
        due("20: another is missing", x.mended(0, 0), NO + 1);
        x.read(1, 0);
        due("20: half, upper", x.mended(0, 0), 7);
        due("20: half, lower", x.mended(0, 1), 2);
        due("20: half of one that goes", x.mended(1, 0), 7);
        x.meter(1);
        x.read(2, 100000);
        x.read(0, 0);
        due("20: below 0, upper", x.mended(0, 0), -100000);
        due("20: below 0, lower", x.mended(0, 1), 3);
        due("20: the rest, upper", x.mended(2, 0), 200000);
        due("20: what goes, upper", x.mended(1, 0), 100000);
        x.read(2, 99999);
        due("20: whole, upper", x.mended(2, 0), 66666);
        due("20: whole, lower", x.mended(2, 1), 1);
    }

    private static void count() {
        WaterTwice x = new WaterTwice();
        x.step(1, 0, 1);
        x.step(1, 0, 1);
        x.step(1, 0, 1);
        x.fresh(0, 100);
        x.fresh(2, 50);
        x.pipe(0, 1, 40);
        x.pipe(1, 0, 1);
        x.pipe(1, 2, 1);
        x.pipe(1, 2, 0);
        x.meter(1);
        x.meter(-1);
        x.set(0, 33);
        x.set(1, 22);
        x.set(2, 1);
        int[] due = {3, 150, 4, 2, 33, 22, 1};
        for (int what = 0; what < due.length; what++) {
            due("21: count(" + what + ")", x.count(what), due[what]);
        }
        due("21: what 7", x.count(7), BAD);
        due("21: what -1", x.count(-1), BAD);
    }

    private static void trace() {
        WaterTwice x = new WaterTwice();
        x.limit(0, 0);
        due("22: a refused limit", x.trace(), 0);
        x.step(1, 0, 500);
        x.limit(0, 0);
        due("22: plain", x.trace(), 1);
        x.limit(1, 0);
        due("22: safe", x.trace(), 12);
        x.limit(2, 0);
        due("22: old", x.trace(), 123);
        x.limit(3, 0);
        x.limit(-1, 0);
        x.limit(2, 1);
        due("22: refused ones", x.trace(), 123);
        x.set(2, 2);
        x.fresh(0, 1);
        x.fails();
        x.at(0, 0);
        x.least(0);
        x.dirt(500, 0);
        due("22: only limit()", x.trace(), 123);
        for (int i = 0; i < 400; i++) {
            x.limit(2, 0);
        }
        due("22: many", x.trace(), 123 + 400 * 111);
    }

    /** Wild numbers are refused in each place, on an empty object and on a full one. */
    private static void wildNumbers() {
        WaterTwice full = new WaterTwice();
        for (int i = 0; i < 5; i++) {
            full.step(1, 0, 1);
        }
        for (int i = 0; i < 8; i++) {
            full.meter(1);
        }
        for (WaterTwice x : new WaterTwice[] {new WaterTwice(), full}) {
            for (int n : WILD) {
                due("wild step load", x.step(n, 0, 1), BAD);
                due("wild step in", x.step(1, n, 500), BAD);
                due("wild step out", x.step(1, 0, n), BAD);
                due("wild change step", x.change(n, 0, 1), BAD);
                due("wild change what", x.change(0, n, 1), BAD);
                due("wild change v", x.change(0, 0, n), BAD);
                due("wild set what", x.set(n, 0), BAD);
                due("wild set v", x.set(1, n), BAD);
                due("wild limit kind", x.limit(n, 0), BAD);
                due("wild limit step", x.limit(0, n), BAD);
                due("wild dirt x", x.dirt(n, 0), BAD);
                due("wild dirt part", x.dirt(1, n), BAD);
                due("wild least", x.least(n), BAD);
                due("wild fresh step", x.fresh(n, 0), BAD);
                due("wild fresh v", x.fresh(0, n), BAD);
                due("wild pipe from", x.pipe(n, 0, 0), BAD);
                due("wild pipe to", x.pipe(0, n, 0), BAD);
                due("wild pipe v", x.pipe(0, 1, n), BAD);
                due("wild water step", x.water(n, 0), BAD);
                due("wild water what", x.water(0, n), BAD);
                due("wild at step", x.at(n, 0), BAD);
                due("wild at part", x.at(0, n), BAD);
                due("wild hit from", x.hit(n, 0, 0), BAD);
                due("wild hit h", x.hit(0, n, 0), BAD);
                due("wild hit step", x.hit(0, 0, n), BAD);
                due("wild steady v", x.steady(n, 0, 0, 0, 0), BAD);
                due("wild steady d", x.steady(1, n, 0, 0, 0), BAD);
                due("wild steady l", x.steady(1, 0, n, 0, 0), BAD);
                due("wild steady b", x.steady(1, 0, 0, n, 0), BAD);
                due("wild steady what", x.steady(1, 0, 0, 0, n), BAD);
                due("wild store hour", x.store(n, 0, 0), BAD);
                due("wild store what", x.store(0, n, 0), BAD);
                due("wild store v", x.store(0, 0, n), BAD);
                due("wild room", x.room(n), BAD);
                due("wild meter", x.meter(n == -1 ? 0 : n), BAD);
                due("wild read meter", x.read(n, 0), BAD);
                due("wild read v", x.read(0, n), BAD);
                due("wild gap", x.gap(n), NO);
                due("wild mended meter", x.mended(n, 0), NO);
                due("wild mended part", x.mended(0, n), NO);
                due("wild count", x.count(n), BAD);
            }
        }
    }

    private static void objectsApart() {
        WaterTwice x = new WaterTwice();
        WaterTwice y = new WaterTwice();
        x.step(1, 0, 1);
        x.meter(1);
        x.store(0, 0, 5);
        x.set(0, 1);
        x.limit(2, 0);
        due("apart: steps", y.count(0), 0);
        due("apart: meters", y.count(3), 0);
        due("apart: store", y.room(1), 0);
        due("apart: margin", y.count(4), 10);
        due("apart: trace", y.trace(), 0);
    }
}
