import java.util.Arrays;

/** Each sentence of a promise that names a boundary case (too small, too large, empty, full, a wrap-around, a refused call) has a test of its own. */
public final class EdgesTest extends Sentences {
    static final int[] FAR = {Integer.MIN_VALUE, Integer.MIN_VALUE + 1, -1000, Integer.MAX_VALUE - 1, Integer.MAX_VALUE};

    interface Asked { void of(int v); }

    /** A call throws for one below the least, one above the most, and far beyond both, and doesn't for these two. */
    static void refused(String what, Class<?> due, long least, long most, Asked call) {
        if (least <= most) {
            call.of((int) least);
            call.of((int) most);
        }
        if (least > Integer.MIN_VALUE) fails(what + " " + (least - 1), due, () -> call.of((int) (least - 1)));
        if (most < Integer.MAX_VALUE) fails(what + " " + (most + 1), due, () -> call.of((int) (most + 1)));
        for (int v : FAR) if (v < least || v > most) fails(what + " " + v, due, () -> call.of(v));
    }

    /** Ten wells, all asleep in hour 0, each beside the next one, 9 beside 0 too. */
    static String ten(String law) {
        StringBuilder s = new StringBuilder("well every 4 awake 2 shift 2;".repeat(10));
        for (int w = 0; w < 10; w++) s.append("beside ").append(w).append(" ").append((w + 1) % 10).append(";");
        return s.append(law).toString();
    }

    static long[] filled(int many, long v) {
        long[] row = new long[many];
        Arrays.fill(row, v);
        return row;
    }

    // ---- the hills

    @Says(promise = 1, value = "No WELLS, no HOUSES; TRAYS are MISSING; an empty tape.")
    static void newObject() {
        SnoringWells x = new SnoringWells();
        is("wells", x.count(1), 0);
        is("houses", x.count(2), 0);
        is("tape", x.count(8), 0);
        fails("no byte to read", ARGUMENT, () -> x.hills(1));
        for (int t = 0; t < 4; t++) {
            int tray = t;
            fails("judge " + t, STATE, () -> x.judge(tray, 0));
            fails("perform " + t, STATE, () -> x.perform(tray));
            fails("seen " + t, STATE, () -> x.seen(tray));
            fails("roundAt " + t, STATE, () -> x.roundAt(tray, 0));
            fails("listen " + t, STATE, () -> x.listen(tray));
            fails("whose " + t, STATE, () -> x.whose(tray));
            fails("write " + t, STATE, () -> x.write(tray, 0, 0));
        }
        is("no text is read", x.hills(0), 0);
        is("objects share nothing", newBesideAnother(), 0);
    }

    static int newBesideAnother() {
        SnoringWells x = new SnoringWells();
        SnoringWells y = new SnoringWells();
        read(x, VALLEY);
        x.tray(0, 0, 1);
        x.image(0);
        fails("another's tray", STATE, () -> y.perform(0));
        fails("another's image", STATE, () -> y.restore(0));
        return y.count(0) + y.count(1) + y.count(2) + y.count(8);
    }

    @Says(promise = 2, value = "Twenty bytes come behind those on the tape, the highest of each int first: how many it has")
    static void feedsBytes() {
        SnoringWells x = new SnoringWells();
        is("twenty", x.feed(0x686f7572, 0x20313b68, 0x6f757220, 0x323b686f, 0x75722033), 20);
        is("forty", x.feed(0x3b000000, 0, 0, 0, 0x80ff7f01), 40);
        is("hour 1;hour 2;hour 3;", x.hills(21), 3);
        is("the last of them", x.count(3), 3);
        x.feed(0x20202020, 0x20202020, 0x20202020, 0x20202020, 0x202020ff);
        is("the lowest byte of the last int", x.hills(20), -11);
        is("its place", x.fault(1), 19);
        x.feed(0x80202020, 0, 0, 0, 0);
        is("the highest bit", x.hills(20), -11);
        is("its place is the first", x.fault(1), 0);
    }

    @Says(promise = 2, value = "NONE, and nothing changes, if there would be more than 900.")
    static void feedsNoMore() {
        SnoringWells x = new SnoringWells();
        feed(x, " ".repeat(873) + "hour 1;hour 2;");
        is("by forty-five feeds", x.count(8), 900);
        for (int i = 0; i < 3; i++) is("no more", x.feed(0x3f3f3f3f, 0x3f3f3f3f, 0x3f3f3f3f, 0x3f3f3f3f, 0x3f3f3f3f), -1);
        is("still 900", x.count(8), 900);
        is("what is on it is as it was", x.hills(887), 2);
        is("room anew", x.feed(0, 0, 0, 0, 0), 20);
        SnoringWells y = new SnoringWells();
        for (int i = 1; i <= 44; i++) y.feed(0, 0, 0, 0, 0);
        is("just 900", y.feed(0, 0, 0, 0, 0), 900);
    }

    @Says(promise = 3, value = "The first n bytes of the tape (which is empty then) are THE HILLS, no DEEDS: how many LINES")
    static void readsTheTape() {
        SnoringWells x = new SnoringWells();
        is("none of an empty tape", x.hills(0), 0);
        feed(x, "hour 1;?");
        is("what is behind them doesn't count", x.hills(7), 1);
        is("empty then", x.count(8), 0);
        fails("empty indeed", ARGUMENT, () -> x.hills(1));
        x.hours(1);
        x.thunder();
        feed(x, "hour 2;");
        is("none of a full tape", x.hills(0), 0);
        is("empty then, too", x.count(8), 0);
        is("no deeds", x.count(7), 0);
        fails("none to undo", ARGUMENT, () -> x.undo(1));
        is("hour", x.count(3), 0);
        feed(x, "hour 123;");
        is("cut in a number", x.hills(7), -12);
        feed(x, "hour 123;");
        is("all that it has", x.hills(9), 1);
        is("128 lines", read(x, "hour 1;".repeat(128)), 128);
        read(x, VALLEY);
        x.thunder();
        read(x, VALLEY);
        is("sour ones are no more", x.count(5), 0);
        is("awake as told", x.awake(), 1);
    }

    @Says(promise = 3, value = "-10 less the FAULT (all else stays).")
    static void readsAFault() {
        SnoringWells x = of(VALLEY);
        SnoringWells twin = of(VALLEY);
        for (SnoringWells y : new SnoringWells[] {x, twin}) {
            y.draw(0, 3);
            y.image(1);
            y.thunder();
            row(y, 0, 0, 1);
        }
        is("1", read(x, "hour 1;?"), -11);
        is("2", read(x, "hour 1;;"), -12);
        is("3", read(x, W + "beside 0 0;"), -13);
        is("4", read(x, W.repeat(11)), -14);
        is("the tape is empty", x.count(8), 0);
        is("trays", x.seen(0), twin.seen(0));
        is("all else, deeds too", past(x), past(twin));
        x.restore(1);
        twin.restore(1);
        is("images", past(x), past(twin));
    }

    @Says(promise = 3, value = "IllegalArgumentException: n is below 0 or above what it has.")
    static void readsTooMuch() {
        SnoringWells x = new SnoringWells();
        refused("of an empty tape", ARGUMENT, 0, 0, x::hills);
        feed(x, "hour 7;");
        for (int n : new int[] {-1, 21, 900, 901, Integer.MIN_VALUE, Integer.MAX_VALUE}) fails("of twenty " + n, ARGUMENT, () -> x.hills(n));
        is("it has them still", x.count(8), 20);
        feed(x, " ".repeat(880));
        fails("of 900", ARGUMENT, () -> x.hills(901));
        is("the first byte behind the line is a 0", x.hills(900), -11);
        is("its place", x.fault(1), 7);
    }

    @Says(promise = 4, value = "Of the latest hills() that threw nothing, what 0: the FAULT (0 without, and at first), 1: its place (NONE without).")
    static void latestFault() {
        SnoringWells x = new SnoringWells();
        is("at first", x.fault(0), 0);
        is("place at first", x.fault(1), -1);
        read(x, "?");
        is("a fault at 0", x.fault(0) * 10 + x.fault(1), 10);
        fails("a throw", ARGUMENT, () -> x.hills(1));
        fails("another", ARGUMENT, () -> x.hills(-1));
        is("as it was", x.fault(0) * 10 + x.fault(1), 10);
        read(x, "hour 1000;");
        is("the latest", x.fault(0) * 10 + x.fault(1), 15);
        is("no text", x.hills(0), 0);
        is("without", x.fault(0), 0);
        is("place without", x.fault(1), -1);
        read(x, " ".repeat(899) + "?");
        is("as far as can be", x.fault(1), 899);
    }

    @Says(promise = 4, value = "NONE for others.")
    static void otherFaults() {
        SnoringWells x = new SnoringWells();
        for (int round = 0; round < 2; round++) {
            for (int what : new int[] {2, 3, -1, -2, Integer.MIN_VALUE, Integer.MAX_VALUE}) is("what " + what, x.fault(what), -1);
            read(x, "hour 1 ?");
        }
    }

    @Says(promise = 5, value = "Of a WELL, what 0: ROUND, 1: how long it is awake, 2: shift, 3: DEEP, 4: WATER, 5: PHASE")
    static void wellsNumbers() {
        SnoringWells x = of("well every 2 awake 1 deep 1 water 0;well every 12 awake 12 shift 11 deep 99;hour 999;");
        int[] least = {2, 1, 0, 1, 0, 1};
        int[] most = {12, 12, 11, 99, 99, 2};
        for (int what = 0; what < 6; what++) {
            is("least " + what, x.well(0, what), least[what]);
            is("most " + what, x.well(1, what), most[what]);
        }
        x.hours(1);
        is("phase turns", x.well(0, 5), 0);
        x.hours(8);
        is("phase at its last", x.well(1, 5), 11);
    }

    @Says(promise = 5, value = "8: WELLS beside it, as bits.")
    static void besideBits() {
        SnoringWells x = of(ten(""));
        is("0", x.well(0, 8), 1 << 9 | 1 << 1);
        is("9", x.well(9, 8), 1 << 8 | 1);
        is("none", of(W).well(0, 8), 0);
    }

    @Says(promise = 5, value = "6: 1 if AWAKE, else 0, 7: 1 if SOUR, else 0")
    static void awakeAndSour() {
        SnoringWells x = of(ten(""));
        is("asleep", x.well(9, 6) * 10 + x.well(9, 7), 0);
        x.thunder();
        is("awake and sour", x.well(9, 6) * 10 + x.well(9, 7), 11);
        x.lull(9);
        is("asleep and sour", x.well(9, 6) * 10 + x.well(9, 7), 1);
        x.hours(1);
        is("asleep and sour no more", x.well(9, 6) * 10 + x.well(9, 7), 0);
        is("awake and sour still", x.well(8, 6) * 10 + x.well(8, 7), 11);
    }

    @Says(promise = 5, value = "NoSuchElementException: no such WELL (as everywhere)")
    static void noSuchWell() {
        SnoringWells full = of(ten("wakes 1=1;"));
        SnoringWells none = new SnoringWells();
        SnoringWells two = of(W + "well every 4 awake 1 shift 1;beside 0 1;");
        for (SnoringWells x : new SnoringWells[] {full, none, two}) {
            int wells = x.count(1);
            x.tray(0, 0, 3);
            refused("well", NOSUCH, 0, wells - 1, w -> x.well(w, 0));
            refused("wakesIn", NOSUCH, 0, wells - 1, x::wakesIn);
            refused("stays", NOSUCH, 0, wells - 1, x::stays);
            refused("chain", NOSUCH, 0, wells - 1, w -> x.chain(w, 0));
            refused("quietest", NOSUCH, 0, wells - 1, x::quietest);
            refused("wakers", NOSUCH, 0, wells - 1, w -> x.wakers(w, 0));
            refused("leastNoise", NOSUCH, 0, wells - 1, w -> x.leastNoise(w, 0));
            refused("loudHour", NOSUCH, 0, wells - 1, w -> x.loudHour(w, 0));
            refused("waterIn", NOSUCH, 0, wells - 1, w -> x.waterIn(w, 0));
            refused("hasIn", NOSUCH, 0, wells - 1, w -> x.hasIn(w, 0));
            refused("copy", NOSUCH, 0, wells - 1, w -> x.copy(0, w));
            if (wells == 0) continue;
            refused("yawns, the first", NOSUCH, 0, wells - 1, w -> x.yawns(w, 0, 0));
            refused("yawns, the second", NOSUCH, 0, wells - 1, w -> x.yawns(0, 0, w));
            refused("shield, the first", NOSUCH, 0, wells - 1, w -> x.shield(w, 0, 0, 0));
            refused("shield, the second", NOSUCH, 0, wells - 1, w -> x.shield(0, 0, w, 0));
            for (int w : new int[] {-1, wells, Integer.MIN_VALUE, Integer.MAX_VALUE}) {
                fails("wakes, the first " + w, NOSUCH, () -> x.wakes(w, 0, 0));
                fails("wakes, the second " + w, NOSUCH, () -> x.wakes(0, w, 0));
                fails("level, the first " + w, NOSUCH, () -> x.level(w, 0));
                fails("level, the second " + w, NOSUCH, () -> x.level(0, w));
            }
        }
    }

    @Says(promise = 5, value = "IllegalArgumentException: another what.")
    static void wellsWhat() {
        SnoringWells x = of(VALLEY);
        refused("what", ARGUMENT, 0, 8, what -> x.well(2, what));
    }

    @Says(promise = 6, value = "Of a HOUSE, what 0: what it NEEDS, 1: its WELLS, as bits.")
    static void housesNumbers() {
        SnoringWells x = of(W.repeat(10) + "house 1 from 0;house 99 from 9;house 5 from 9 8 7 6 5 4 3 2 1 0 0;");
        is("the least need", x.house(0, 0), 1);
        is("the most", x.house(1, 0), 99);
        is("the first well", x.house(0, 1), 1);
        is("the last well", x.house(1, 1), 512);
        is("all wells", x.house(2, 1), 1023);
    }

    @Says(promise = 6, value = "NoSuchElementException: no such HOUSE (as everywhere)")
    static void noSuchHouse() {
        SnoringWells six = of(W + "house 1 from 0;".repeat(6));
        SnoringWells none = of(W);
        SnoringWells two = of(VALLEY);
        for (SnoringWells x : new SnoringWells[] {six, none, two}) {
            int houses = x.count(2);
            refused("house", NOSUCH, 0, houses - 1, h -> x.house(h, 0));
            refused("quietHours", NOSUCH, 0, houses - 1, x::quietHours);
            refused("quietWell", NOSUCH, 0, houses - 1, h -> x.quietWell(h, 0));
        }
    }

    @Says(promise = 6, value = "IllegalArgumentException: another what.")
    static void housesWhat() {
        SnoringWells x = of(VALLEY);
        refused("what", ARGUMENT, 0, 1, what -> x.house(1, what));
    }

    @Says(promise = 7, value = "AWAKE WELLS, as bits.")
    static void awakeBits() {
        is("no wells", new SnoringWells().awake(), 0);
        SnoringWells x = of(ten(""));
        is("none of ten", x.awake(), 0);
        x.hours(2);
        is("all of ten", x.awake(), 1023);
        is("the last alone", of(W + "hour 1;" + "well every 4 awake 1;".repeat(8) + "well every 4 awake 4;").awake(), 512);
    }

    @Says(promise = 8, value = "WATER of all WELLS.")
    static void allWater() {
        is("no wells", new SnoringWells().water(), 0);
        is("all empty", of("well every 2 awake 1 water 0;".repeat(10)).water(), 0);
        is("all full", of("well every 2 awake 1 deep 99;".repeat(10)).water(), 990);
    }

    // ---- deeds

    @Says(promise = 9, value = "To DRAW n: how many WELLS were woken")
    static void drawsWake() {
        SnoringWells x = of(ten("wakes 1=1;").replaceFirst("awake 2 shift 2", "awake 2"));
        is("nine", x.draw(0, 1), 9);
        is("none is asleep now", x.draw(0, 1), 0);
        SnoringWells y = of("well every 4 awake 2 deep 99;");
        is("99", y.draw(0, 99), 0);
        is("all of it", y.well(0, 4), 0);
    }

    @Says(promise = 9, value = "below 0: less why it can't be (nothing happens).")
    static void drawsRefused() {
        SnoringWells x = of("well every 4 awake 2;".repeat(2) + "well every 4 awake 2 shift 2;".repeat(2) + "beside 0 2;wakes 1=1;");
        x.thunder();
        x.lull(3);
        String was = state(x);
        for (int w : new int[] {4, 10, -1, Integer.MIN_VALUE, Integer.MAX_VALUE}) is("well " + w, x.draw(w, 1), -1);
        for (int n : new int[] {0, -1, 100, 101, Integer.MIN_VALUE, Integer.MAX_VALUE}) is("n " + n, x.draw(0, n), -1);
        is("asleep", x.draw(3, 1), -2);
        is("sour", x.draw(2, 1), -3);
        is("not so much", x.draw(0, 11), -4);
        is("nothing happened", state(x), was);
    }

    @Says(promise = 10, value = "To LULL: its shift then; below NONE: -10 less why it can't be (nothing happens).")
    static void lulls() {
        SnoringWells x = of("well every 5 awake 3 shift 1;well every 4 awake 4;well every 2 awake 1 shift 1;hour 8;");
        String was = state(x);
        for (int w : new int[] {3, 10, -1, Integer.MIN_VALUE, Integer.MAX_VALUE}) is("well " + w, x.lull(w), -11);
        is("asleep", x.lull(0) + x.lull(2), -24);
        is("never sleeps", x.lull(1), -13);
        is("nothing happened", state(x), was);
        x.hours(2);
        is("shift 3 in hour 10", x.lull(0), 3);
        SnoringWells y = of("well every 5 awake 3 shift 2;hour 3;");
        is("shift 0 in hour 3", y.lull(0), 0);
        is("a deed", y.count(7), 1);
    }

    @Says(promise = 11, value = "A COIN: how many other WELLS were woken; below 0: less why it can't be.")
    static void coins() {
        SnoringWells x = of(ten("wakes 1=1;"));
        String was = state(x);
        for (int w : new int[] {10, -1, Integer.MIN_VALUE, Integer.MAX_VALUE}) is("well " + w, x.coin(w), -1);
        is("nothing happened", state(x), was);
        is("nine others", x.coin(9), 9);
        was = state(x);
        is("awake", x.coin(9), -2);
        is("awake by a yawn", x.coin(0), -2);
        is("nothing happened then", state(x), was);
        is("nine are sour", x.count(5), 9);
        is("no other", of(ten("")).coin(0), 0);
        is("no wells", new SnoringWells().coin(0), -1);
    }

    @Says(promise = 12, value = "THUNDER: how many WELLS were woken.")
    static void thunders() {
        SnoringWells x = of(ten(""));
        is("ten", x.thunder(), 10);
        is("none", x.thunder(), 0);
        is("both are deeds", x.count(7), 2);
        is("no wells", new SnoringWells().thunder(), 0);
        is("none that never sleeps", of("well every 2 awake 2;").thunder(), 0);
    }

    @Says(promise = 13, value = "n HOURS (1 to 99): by how much all WATER is more.")
    static void hoursFill() {
        String slow = "well every 12 awake 1 shift 1 deep 99 water 0;";
        is("1", of(slow).hours(1), 1);
        is("11", of(slow).hours(11), 11);
        is("12: awake for one", of(slow).hours(12), 11);
        is("99", of(slow).hours(99), 91);
        is("ten of them", of(slow.repeat(10)).hours(99), 910);
        is("full", of("well every 12 awake 1 shift 1;").hours(99), 0);
        is("awake for ever", of("well every 12 awake 12 water 0;").hours(99), 0);
        is("no wells", new SnoringWells().hours(99), 0);
        SnoringWells x = of(slow);
        SnoringWells y = of(slow);
        x.hours(99);
        for (int i = 0; i < 99; i++) y.hours(1);
        is("as one by one", x.well(0, 4) * 1000 + x.count(3), y.well(0, 4) * 1000 + y.count(3));
        is("one deed", x.count(7), 1);
    }

    @Says(promise = 13, value = "IllegalArgumentException: n.")
    static void hoursRefused() {
        SnoringWells x = of(VALLEY);
        refused("n", ARGUMENT, 1, 99, x::hours);
        is("two were not", x.count(7), 2);
        is("hour", x.count(3), 100);
    }

    @Says(promise = 14, value = "n DEEDS are UNDONE: how many still can be.")
    static void undone() {
        SnoringWells x = new SnoringWells();
        for (int i = 0; i < 10; i++) x.hours(1);
        is("one", x.undo(1), 9);
        is("hour", x.count(3), 9);
        is("eight", x.undo(8), 1);
        is("hour then", x.count(3), 1);
        is("the last", x.undo(1), 0);
        for (int i = 0; i < 10; i++) x.hours(2);
        is("ten at once", x.undo(10), 0);
        is("hour at last", x.count(3), 0);
    }

    @Says(promise = 14, value = "IllegalArgumentException: n isn't 1 to 10, there aren't so many.")
    static void undoRefused() {
        SnoringWells x = new SnoringWells();
        for (int n : new int[] {1, 2, 10}) fails("none to undo " + n, ARGUMENT, () -> x.undo(n));
        for (int deeds = 1; deeds <= 10; deeds++) {
            x.hours(1);
            if (deeds == 10) break;
            int more = deeds + 1;
            fails("one more than " + deeds, ARGUMENT, () -> x.undo(more));
        }
        for (int n : new int[] {0, -1, 11, 12, Integer.MIN_VALUE, Integer.MAX_VALUE}) fails("n " + n, ARGUMENT, () -> x.undo(n));
        is("all are there", x.undo(10), 0);
    }

    @Says(promise = 15, value = "what 0: the first place that can't be (NONE), 1: why (0), 2: WATER of all then, 3: AWAKE WELLS then, as bits.")
    static void judges() {
        SnoringWells x = of("well every 4 awake 2;".repeat(2));
        String was = state(x);
        x.tray(0, 0, 0);
        is("nothing told, place", x.judge(0, 0), -1);
        is("nothing told, why", x.judge(0, 1), 0);
        is("nothing told, water", x.judge(0, 2), 20);
        is("nothing told, awake", x.judge(0, 3), 3);
        row(x, 0, 1, 10, 1, 101);
        is("place 1", x.judge(0, 0), 1);
        is("why 4", x.judge(0, 1), 4);
        is("water up to it", x.judge(0, 2), 10);
        long[] told = filled(30, -1);
        row(x, 1, 1, told);
        is("thirty that can be", x.judge(1, 0), -1);
        is("asleep by then: hour 30", x.judge(1, 3), 0);
        told[29] = 0;
        row(x, 1, 1, told);
        is("the last place", x.judge(1, 0), 29);
        is("why 1", x.judge(1, 1), 1);
        told[0] = 0;
        row(x, 1, 1, told);
        is("the first place", x.judge(1, 0), 0);
        is("water as it is", x.judge(1, 2), 20);
        is("awake as it is", x.judge(1, 3), 3);
        is("judged, not done", state(x), was);
    }

    @Says(promise = 15, value = "TOLD DEEDS, judged as if done")
    static void judgedAsIfDone() {
        SnoringWells x = of(RING);
        SnoringWells twin = of(RING);
        row(x, 0, 1, 1, 2000, 3000, -1, 101);
        for (SnoringWells y : new SnoringWells[] {x, twin}) {
            y.hours(4);
            y.image(0);
            y.hours(4);
        }
        is("1 is sour by the draw", x.judge(0, 1), 3);
        is("its place", x.judge(0, 0), 4);
        is("0 is woken by thunder", x.judge(0, 3), 31);
        is("nothing is done", past(x), past(twin));
        x.restore(0);
        twin.restore(0);
        is("images are as they were", past(x), past(twin));
    }

    @Says(promise = 15, value = "NoSuchElementException: no such TRAY (as below); IllegalStateException: it is MISSING (as below); IllegalArgumentException: another what.")
    static void judgeRefused() {
        SnoringWells x = of(VALLEY);
        for (int t : new int[] {-1, 4, 5, Integer.MIN_VALUE, Integer.MAX_VALUE}) {
            fails("judge " + t, NOSUCH, () -> x.judge(t, 0));
            fails("perform " + t, NOSUCH, () -> x.perform(t));
            fails("seen " + t, NOSUCH, () -> x.seen(t));
            fails("roundAt " + t, NOSUCH, () -> x.roundAt(t, 0));
            fails("listen " + t, NOSUCH, () -> x.listen(t));
            fails("whose " + t, NOSUCH, () -> x.whose(t));
            fails("copy " + t, NOSUCH, () -> x.copy(t, 0));
        }
        for (int t = 0; t < 4; t++) {
            int tray = t;
            fails("judge, missing " + t, STATE, () -> x.judge(tray, 0));
            fails("perform, missing " + t, STATE, () -> x.perform(tray));
            fails("copy, missing " + t, STATE, () -> x.copy(tray, 0));
            x.tray(t, 0, 0);
            is("there is one now", x.judge(tray, 0), -1);
        }
        refused("what", ARGUMENT, 0, 3, what -> x.judge(0, what));
    }

    @Says(promise = 16, value = "They are done (each a DEED), till one can't be: how many were.")
    static void performs() {
        SnoringWells x = of(VALLEY);
        SnoringWells byHand = of(VALLEY);
        row(x, 0, 1, 3, 2000, 2102, 3000, -1, 1000, -1);
        is("five, and none behind the sixth", x.perform(0), 5);
        byHand.draw(0, 3);
        byHand.lull(0);
        byHand.coin(2);
        byHand.thunder();
        byHand.hours(1);
        is("as by calls", past(x), past(byHand));
        x.tray(1, 0, 0);
        is("none told", x.perform(1), 0);
        row(x, 1, 1, 0, -1);
        is("the first can't be", x.perform(1), 0);
        is("no deed", x.count(7), 0);
        row(x, 1, 0, filled(30, -1));
        is("thirty", x.perform(1), 30);
        is("ten can be undone", x.undo(10), 0);
        is("twenty not", x.count(3), 20);
    }

    @Says(promise = 17, value = "A YEAR (each a DEED): how many could be.")
    static void years() {
        SnoringWells full = of("well every 2 awake 2 water 0;");
        int drawn = seedFor(2);
        is("one that can't be", full.year(drawn, 1), 0);
        is("no deed", full.count(7), 0);
        is("an hour", full.year(seedFor(0), 1), 1);
        is("a deed", full.count(7), 1);
        SnoringWells x = of("well every 12 awake 12 deep 99;");
        is("six hours", x.year(seedFor(0, 1, 0, 1, 0, 1), 6), 6);
        is("each a deed", x.count(7), 6);
        is("hour", x.count(3), 6);
    }

    @Says(promise = 17, value = "IllegalArgumentException: how many times.")
    static void yearRefused() {
        SnoringWells x = of(VALLEY);
        SnoringWells none = new SnoringWells();
        refused("times", ARGUMENT, 1, 30, times -> x.year(7, times));
        refused("times without wells", ARGUMENT, 1, 30, times -> none.year(7, times));
    }

    // ---- rounds

    @Says(promise = 18, value = "JOINT ROUND (1 without WELLS).")
    static void jointEdges() {
        is("without", new SnoringWells().joint(), 1);
        is("one of 2", of("well every 2 awake 2;").joint(), 2);
        is("the longest", of(ALL_ROUNDS).joint(), 27720);
        SnoringWells x = of(ALL_ROUNDS);
        x.hours(7);
        x.thunder();
        is("the same at all times", x.joint(), 27720);
        for (String text : new String[] {"well every 7 awake 1;", "well every 11 awake 1;", "well every 8 awake 1;", ""}) {
            read(x, text);
            is("of other hills: " + text, x.joint(), of(text).joint());
            is("none awake then: " + text, x.withAwake(0), of(text).withAwake(0));
        }
    }

    @Says(promise = 19, value = "TOGETHER (awake: AWAKE, else ASLEEP)")
    static void togetherBoth() {
        SnoringWells x = of("well every 12 awake 11;well every 12 awake 1 shift 1;");
        is("both awake", x.together(3, true), -1);
        is("0 awake", x.together(1, true), 0);
        is("0 asleep", x.together(1, false), 11);
        is("1 awake", x.together(2, true), 11);
        is("1 asleep", x.together(2, false), 0);
        x.hours(11);
        is("1 awake now", x.together(2, true), 0);
        is("0 awake next", x.together(1, true), 1);
    }

    @Says(promise = 19, value = "NONE: never; 0 for an empty set.")
    static void togetherEdges() {
        SnoringWells x = of("well every 2 awake 1;well every 2 awake 1 shift 1;");
        is("never awake", x.together(3, true), -1);
        is("never asleep", x.together(3, false), -1);
        is("empty, awake", x.together(0, true), 0);
        is("empty, asleep", x.together(0, false), 0);
        is("empty without wells", new SnoringWells().together(0, false), 0);
        is("one", x.together(2, true), 1);
        is("ten", of(ten("")).together(1023, true), 2);
    }

    @Says(promise = 19, value = "IllegalArgumentException: it has others than WELLS.")
    static void togetherRefused() {
        SnoringWells x = of(W + W);
        refused("two wells", ARGUMENT, 0, 3, set -> x.together(set, true));
        SnoringWells ten = of(ten(""));
        refused("ten wells", ARGUMENT, 0, 1023, set -> ten.together(set, false));
        SnoringWells none = new SnoringWells();
        refused("no wells", ARGUMENT, 0, 0, set -> none.together(set, true));
        for (int bit = 2; bit < 32; bit++) {
            int set = 1 | 1 << bit;
            fails("bit " + bit, ARGUMENT, () -> x.together(set, false));
        }
    }

    @Says(promise = 20, value = "In how many HOURS a WELL is AWAKE next (0: it is).")
    static void wakesInEdges() {
        SnoringWells x = of("well every 12 awake 1;");
        for (int h = 0; h < 25; h++) {
            is("in hour " + h, x.wakesIn(0), (12 - h % 12) % 12);
            x.hours(1);
        }
        is("the last hour asleep", of("well every 2 awake 1 shift 1;").wakesIn(0), 1);
        is("never sleeps", of("well every 12 awake 12 shift 11;").wakesIn(0), 0);
    }

    @Says(promise = 21, value = "For how many HOURS, this one counted, a WELL stays as it is, AWAKE or ASLEEP; NONE: for ever.")
    static void staysEdges() {
        int[] due = {3, 2, 1, 2, 1, 3};
        SnoringWells x = of("well every 5 awake 3;");
        for (int h = 0; h < due.length; h++) {
            is("in hour " + h, x.stays(0), due[h]);
            x.hours(1);
        }
        is("asleep for 11", of("well every 12 awake 1 shift 1;").stays(0), 11);
        is("awake for 11", of("well every 12 awake 11;").stays(0), 11);
        for (int shift = 0; shift < 12; shift++) is("for ever by shift " + shift, of("well every 12 awake 12 shift " + shift + ";").stays(0), -1);
    }

    @Says(promise = 22, value = "How many HOURS of the JOINT ROUND from now on have just n WELLS AWAKE.")
    static void withAwakeEdges() {
        is("no wells", new SnoringWells().withAwake(0), 1);
        SnoringWells x = of("well every 12 awake 1;well every 2 awake 2;");
        is("0", x.withAwake(0), 0);
        is("1", x.withAwake(1), 11);
        is("2", x.withAwake(2), 1);
        SnoringWells all = of(ALL_ROUNDS);
        int hours = 0;
        for (int n = 0; n <= 10; n++) hours += all.withAwake(n);
        is("each hour once", hours, 27720);
        is("all ten once", all.withAwake(10), 1);
        is("just nine", all.withAwake(9), nineOfAll());
    }

    /** In how many hours of 27720 just nine of the ten rounds begin, counted one by one. */
    static int nineOfAll() {
        int[] rounds = {8, 9, 5, 7, 11, 2, 3, 10, 12, 6};
        int hours = 0;
        for (int h = 0; h < 27720; h++) {
            int many = 0;
            for (int r : rounds) if (h % r == 0) many++;
            if (many == 9) hours++;
        }
        return hours;
    }

    @Says(promise = 22, value = "IllegalArgumentException: n is below 0 or above WELLS.")
    static void withAwakeRefused() {
        SnoringWells x = of(VALLEY);
        refused("three wells", ARGUMENT, 0, 3, x::withAwake);
        SnoringWells ten = of(ten(""));
        refused("ten wells", ARGUMENT, 0, 10, ten::withAwake);
        SnoringWells none = new SnoringWells();
        refused("no wells", ARGUMENT, 0, 0, none::withAwake);
    }

    @Says(promise = 23, value = "The first HOUR from now on (within the JOINT ROUND) with fewest WELLS AWAKE, what 0: in how many HOURS, 1: how many.")
    static void stillestEdges() {
        SnoringWells none = new SnoringWells();
        is("no wells, in", none.stillest(0), 0);
        is("no wells, how many", none.stillest(1), 0);
        SnoringWells last = of("well every 12 awake 11;");
        is("the last hour", last.stillest(0) * 10 + last.stillest(1), 110);
        SnoringWells now = of("well every 12 awake 11 shift 11;");
        is("now", now.stillest(0) * 10 + now.stillest(1), 0);
        SnoringWells ever = of("well every 12 awake 12;well every 7 awake 7;");
        is("all at all times: the first", ever.stillest(0) * 10 + ever.stillest(1), 2);
        SnoringWells far = of(ALL_ROUNDS.replace("every 11 awake 1", "every 11 awake 10").replace("every 7 awake 1", "every 7 awake 6"));
        int at = far.stillest(0);
        is("11 and 7 asleep, and all others", at % 11 * 10 + at % 7, 106);
        is("none awake", far.stillest(1), 0);
    }

    @Says(promise = 23, value = "IllegalArgumentException: another what.")
    static void stillestRefused() {
        SnoringWells x = of(VALLEY);
        refused("what", ARGUMENT, 0, 1, x::stillest);
        SnoringWells none = new SnoringWells();
        refused("what without wells", ARGUMENT, 0, 1, none::stillest);
    }

    // ---- noises

    @Says(promise = 24, value = "WELLS woken by a NOISE of n (0 to 99) at a WELL now, as bits.")
    static void chainEdges() {
        String two = "well every 2 awake 1;well every 2 awake 1 shift 1;beside 0 1;wakes n=";
        for (int n : new int[] {0, 1, 98, 99}) {
            SnoringWells x = of(two + n + ";");
            for (int told : new int[] {0, 1, 98, 99}) is(told + " where " + n + " wakes", x.chain(0, told), told == n ? 2 : 0);
        }
        is("all but itself", of(ten("wakes 1=1;")).chain(9, 99), 511);
        SnoringWells x = of(two + "5;");
        x.chain(0, 5);
        is("nothing is done", x.awake() * 10 + x.count(7), 10);
        is("more than it has", of(two.replaceFirst("awake 1", "awake 1 water 0") + "99;").chain(0, 99), 2);
    }

    @Says(promise = 24, value = "IllegalArgumentException: n.")
    static void chainRefused() {
        SnoringWells x = of(VALLEY);
        refused("n", ARGUMENT, 0, 99, n -> x.chain(0, n));
    }

    @Says(promise = 25, value = "wakes another one that is ASLEEP at once (they are beside one another, the law holds).")
    static void wakesEdges() {
        SnoringWells x = of(ten("wakes n=99 or n=0;"));
        is("n 0", x.wakes(0, 1, 0), true);
        is("n 99", x.wakes(0, 1, 99), true);
        is("n 98", x.wakes(0, 1, 98), false);
        is("the ring closes", x.wakes(0, 9, 0), true);
        is("by a yawn alone", x.wakes(0, 2, 0), false);
        x.coin(1);
        is("awake", x.wakes(0, 1, 0), false);
        is("without a law", of(ten("")).wakes(0, 1, 0), false);
    }

    @Says(promise = 25, value = "IllegalArgumentException: both one, n.")
    static void wakesRefused() {
        SnoringWells x = of(ten(""));
        refused("n", ARGUMENT, 0, 99, n -> x.wakes(0, 1, n));
        for (int w = 0; w < 10; w++) {
            int one = w;
            fails("both " + w, ARGUMENT, () -> x.wakes(one, one, 0));
        }
    }

    @Says(promise = 26, value = "The greatest n (1 to 99) so that a DRAW of n now could be and were QUIET; 0: none.")
    static void quietestEdges() {
        String deep = "well every 2 awake 1 deep 99;well every 2 awake 1 shift 1;beside 0 1;wakes ";
        is("99", of(deep + "1=2;").quietest(0), 99);
        is("1", of(deep + "n>1;").quietest(0), 1);
        is("0 by all n", of(deep + "n>0;").quietest(0), 0);
        is("0 counts not", of(deep + "n>0;").chain(0, 0), 0);
        is("98", of(deep + "n=99;").quietest(0), 98);
        is("the greatest though lesser ones are loud", of(deep + "n<99;").quietest(0), 99);
        is("no more than it has", of("well every 2 awake 1 deep 99 water 1;").quietest(0), 1);
        is("empty", of("well every 2 awake 1 water 0;").quietest(0), 0);
        is("asleep", of(deep + "1=2;").quietest(1), 0);
        SnoringWells sour = of("well every 2 awake 1 shift 1;".repeat(2));
        sour.thunder();
        is("sour", sour.quietest(0), 0);
    }

    @Says(promise = 27, value = "WELLS that are AWAKE, at which a NOISE of n wakes a WELL, as bits.")
    static void wakersEdges() {
        String nine = "well every 2 awake 1;".repeat(9) + "well every 2 awake 1 shift 1;";
        StringBuilder all = new StringBuilder(nine);
        for (int w = 0; w < 9; w++) all.append("beside 9 ").append(w).append(";");
        SnoringWells x = of(all + "wakes n=99;");
        is("all nine", x.wakers(9, 99), 511);
        is("none by 98", x.wakers(9, 98), 0);
        is("none wakes an awake one", x.wakers(0, 99), 0);
        x.lull(0);
        is("an asleep one is none", x.wakers(9, 99), 510);
        is("by yawns", of(RING).wakers(4, 0), 1);
    }

    @Says(promise = 27, value = "IllegalArgumentException: n.")
    static void wakersRefused() {
        SnoringWells x = of(VALLEY);
        refused("n", ARGUMENT, 0, 99, n -> x.wakers(0, n));
    }

    @Says(promise = 28, value = "LEAST NOISE, what 0: n, 1: the WELL; NONE: by none, it is AWAKE.")
    static void leastNoiseEdges() {
        String two = "well every 2 awake 1;well every 2 awake 1 shift 1;beside 0 1;wakes ";
        for (int what = 0; what < 2; what++) {
            is("by none, " + what, of(two + "n>99;").leastNoise(1, what), -1);
            is("awake, " + what, of(two + "1=1;").leastNoise(0, what), -1);
            is("without a law, " + what, of(W + "hour 1;").leastNoise(0, what), -1);
        }
        is("99", of(two + "n>98;").leastNoise(1, 0), 99);
        is("by well 0", of(two + "n>98;").leastNoise(1, 1), 0);
        is("n 0", of(two + "1=1;").leastNoise(1, 0), 0);
    }

    @Says(promise = 28, value = "IllegalArgumentException: another what.")
    static void leastNoiseRefused() {
        SnoringWells x = of(VALLEY);
        refused("what", ARGUMENT, 0, 1, what -> x.leastNoise(1, what));
        refused("what, awake", ARGUMENT, 0, 1, what -> x.leastNoise(0, what));
    }

    @Says(promise = 29, value = "what 0: how many (0: it isn't woken), 1: which, as bits; NONE: by none (it is woken at once).")
    static void shieldEdges() {
        SnoringWells x = of(ten("wakes 1=1;").replaceFirst("awake 2 shift 2", "awake 2"));
        is("from both sides", x.shield(0, 1, 5, 0), 2);
        is("which", x.shield(0, 1, 5, 1), 1 << 1 | 1 << 6);
        for (int what = 0; what < 2; what++) {
            is("at once, " + what, x.shield(0, 1, 1, what), -1);
            is("at once the other way, " + what, x.shield(0, 1, 9, what), -1);
            is("itself, " + what, x.shield(0, 1, 0, what), 0);
            is("an awake one, " + what, x.shield(3, 1, 0, what), 0);
            is("without a law, " + what, of(ten("")).shield(0, 1, 5, what), 0);
        }
        is("one beside the first", x.shield(0, 1, 2, 0), 2);
        is("which ones then", x.shield(0, 1, 2, 1), 1 << 1 | 1 << 3);
        is("at 99 alone", of(ten("wakes n=99 or n=0;").replaceFirst("awake 2 shift 2", "awake 2")).shield(0, 99, 2, 0), 2);
        is("at 98 none is woken", of(ten("wakes n=99 or n=0;").replaceFirst("awake 2 shift 2", "awake 2")).shield(0, 98, 2, 0), 0);
    }

    @Says(promise = 29, value = "IllegalArgumentException: n, another what.")
    static void shieldRefused() {
        SnoringWells x = of(VALLEY);
        refused("n", ARGUMENT, 0, 99, n -> x.shield(0, n, 1, 0));
        refused("what", ARGUMENT, 0, 1, what -> x.shield(0, 1, 1, what));
        refused("what, both one", ARGUMENT, 0, 1, what -> x.shield(1, 1, 1, what));
    }

    @Says(promise = 30, value = "The WELL at which a NOISE of n wakes most others (whoever is AWAKE), the first; NONE: no WELLS.")
    static void loudestEdges() {
        is("no wells", new SnoringWells().loudest(0), -1);
        is("no wells, 99", new SnoringWells().loudest(99), -1);
        is("none wakes any: the first", of(ten("")).loudest(99), 0);
        is("all alike: the first", of(ten("wakes 1=1;")).loudest(0), 0);
        SnoringWells last = of("well every 2 awake 1 shift 1;".repeat(3) + "well every 2 awake 1;beside 2 3;beside 1 3;wakes n>0;");
        is("the last", last.loudest(1), 3);
        last.lull(3);
        is("asleep all the same", last.loudest(1), 3);
    }

    @Says(promise = 30, value = "IllegalArgumentException: n.")
    static void loudestRefused() {
        SnoringWells x = of(VALLEY);
        refused("n", ARGUMENT, 0, 99, x::loudest);
        SnoringWells none = new SnoringWells();
        refused("n without wells", ARGUMENT, 0, 99, none::loudest);
    }

    @Says(promise = 31, value = "wakes all that are ASLEEP, what 0: how many, 1: which, as bits, of like ones the least set; NONE: by none.")
    static void chorusEdges() {
        SnoringWells none = new SnoringWells();
        is("no wells", none.chorus(0, 0) * 10 + none.chorus(0, 1), 0);
        SnoringWells up = of("well every 2 awake 2;".repeat(10));
        is("none asleep", up.chorus(99, 0) * 10 + up.chorus(99, 1), 0);
        SnoringWells down = of(ten("wakes 1=1;"));
        is("none awake", down.chorus(0, 0), -1);
        is("none awake, which", down.chorus(0, 1), -1);
        // 0 to 4 are awake, 5 to 9 asleep, each beside one alone: all five are needed
        StringBuilder pairs = new StringBuilder("well every 2 awake 1;".repeat(5) + "well every 2 awake 1 shift 1;".repeat(5));
        for (int w = 0; w < 5; w++) pairs.append("beside ").append(w).append(" ").append(w + 5).append(";");
        SnoringWells five = of(pairs + "wakes n=99;");
        is("five", five.chorus(99, 0), 5);
        is("which five", five.chorus(99, 1), 31);
        is("too low", five.chorus(98, 0), -1);
        for (int alone = 0; alone < 3; alone++) {
            String wells = "well every 2 awake 1;".repeat(alone) + "well every 2 awake 1 shift 1;" + "well every 2 awake 1;".repeat(2 - alone);
            is("one that none is beside, " + alone, of(wells + "wakes 1=1;").chorus(0, 0), -1);
        }
        SnoringWells like = of("well every 2 awake 1;".repeat(2) + "well every 2 awake 1 shift 1;beside 0 2;beside 1 2;wakes 1=1;");
        is("of like ones the least set", like.chorus(0, 1), 1);
        SnoringWells fewest = of("well every 2 awake 1;".repeat(3) + "well every 2 awake 1 shift 1;".repeat(2) + "beside 0 3;beside 1 4;beside 2 3;beside 2 4;wakes n>0;");
        is("one above two", fewest.chorus(1, 0) * 10 + fewest.chorus(1, 1), 14);
    }

    @Says(promise = 31, value = "(one behind the other, each as if it were the first)")
    static void chorusEachAsTheFirst() {
        // 0 and 1 both wake 3 at once; only a yawn of 3 wakes 4: each chain counts by how things are now
        SnoringWells x = of("well every 2 awake 1;".repeat(2) + "well every 2 awake 1 shift 1;".repeat(3) + "beside 0 3;beside 1 3;beside 1 2;beside 3 4;wakes 1=1;");
        is("one with all its yawns", x.chorus(0, 0) * 10 + x.chorus(0, 1), 12);
        is("nothing is done", x.awake() * 10 + x.count(7), 30);
    }

    @Says(promise = 31, value = "IllegalArgumentException: n, another what.")
    static void chorusRefused() {
        SnoringWells x = of(VALLEY);
        refused("n", ARGUMENT, 0, 99, n -> x.chorus(n, 0));
        refused("what", ARGUMENT, 0, 1, what -> x.chorus(0, what));
        SnoringWells none = new SnoringWells();
        refused("n without wells", ARGUMENT, 0, 99, n -> none.chorus(n, 0));
    }

    @Says(promise = 32, value = "by how many yawns b is reached (1: at once; 0: it isn't woken).")
    static void yawnsEdges() {
        SnoringWells x = of(ten("wakes 1=1;"));
        int[] due = {0, 1, 2, 3, 4, 5, 4, 3, 2, 1};
        for (int b = 0; b < 10; b++) is("to " + b, x.yawns(0, 7, b), due[b]);
        SnoringWells row = of(ten("wakes 1=1;").replace("beside 9 0;", ""));
        is("nine", row.yawns(0, 7, 9), 9);
        is("the other way", row.yawns(9, 7, 0), 9);
        row.coin(4);
        is("awake", row.yawns(0, 7, 4), 0);
        is("without a law", of(ten("")).yawns(0, 0, 1), 0);
    }

    @Says(promise = 32, value = "IllegalArgumentException: n.")
    static void yawnsRefused() {
        SnoringWells x = of(VALLEY);
        refused("n", ARGUMENT, 0, 99, n -> x.yawns(0, n, 1));
        refused("n, both one", ARGUMENT, 0, 99, n -> x.yawns(1, n, 1));
    }

    @Says(promise = 33, value = "In how many HOURS (0 to 40, nothing else being done) a NOISE of n at a WELL wakes most, the first.")
    static void loudHourEdges() {
        String two = "well every 2 awake 2;well every 7 awake 6 shift ";
        is("now", of(two + "6;beside 0 1;wakes 1=1;").loudHour(0, 0), 0);
        is("the last hour ahead of the next time", of(two + "0;beside 0 1;wakes 1=1;").loudHour(0, 0), 6);
        is("never: the first", of(two + "0;beside 0 1;wakes 1=2;").loudHour(0, 0), 0);
        // 8 and 9 are asleep together in an hour that is 7 by 8 and 8 by 9: hour 71 from 0 on
        String rare = "well every 2 awake 2;well every 8 awake 7;well every 9 awake 8;beside 0 1;beside 0 2;wakes 1=1;hour ";
        is("in hour 71, 40 hours ahead", of(rare + "31;").loudHour(0, 0), 40);
        is("41 are too many: the first with one", of(rare + "30;").loudHour(0, 0), 1);
        is("39 hours ahead", of(rare + "32;").loudHour(0, 0), 39);
        // asleep in each hour; its water is 9 behind nine hours
        String fills = "well every 2 awake 2;well every 12 awake 1 shift 1 water 0;beside 0 1;wakes wb=9;";
        is("sleepers fill up till then", of(fills).loudHour(0, 0), 9);
    }

    @Says(promise = 33, value = "IllegalArgumentException: n.")
    static void loudHourRefused() {
        SnoringWells x = of(VALLEY);
        refused("n", ARGUMENT, 0, 99, n -> x.loudHour(0, n));
    }

    // ---- plans

    @Says(promise = 34, value = "QUIET HOURS of a HOUSE, as bits.")
    static void quietHoursEdges() {
        SnoringWells x = of("well every 2 awake 2 water 1;well every 8 awake 1;house 1 from 0;house 99 from 0 1;house 1 from 1;");
        is("all 41", x.quietHours(0), 0x1ffffffffffL);
        is("none", x.quietHours(1), 0);
        is("0, 8, 16, 24, 32, 40", x.quietHours(2), 0x10101010101L);
        x.draw(0, 1);
        is("none behind a draw", x.quietHours(0), 0);
        is("dry then", x.dry(), 3);
        is("no plan then", x.plan(0), -2);
        is("one is served", x.served(40), 1);
        x.undo(1);
        is("all 41 once more", x.quietHours(0), 0x1ffffffffffL);
        SnoringWells loud = of("well every 4 awake 4;well every 4 awake 3;beside 0 1;house 1 from 0;wakes n>0;");
        is("loud in hours 3, 7, .. 39", loud.quietHours(0), 0x17777777777L);
    }

    @Says(promise = 35, value = "From which WELL in n HOURS (0 to 40); NONE: it is no QUIET one.")
    static void quietWellEdges() {
        SnoringWells x = of("well every 8 awake 1;".repeat(9) + "well every 8 awake 8;house 1 from 9 0;house 11 from 0;");
        is("0", x.quietWell(0, 0), 0);
        is("1", x.quietWell(0, 1), 9);
        is("39", x.quietWell(0, 39), 9);
        is("40", x.quietWell(0, 40), 0);
        is("none", x.quietWell(1, 0), -1);
        is("none in 40", x.quietWell(1, 40), -1);
        SnoringWells loud = of("well every 4 awake 4;well every 4 awake 3;well every 4 awake 4;beside 0 1;house 1 from 0;house 1 from 0 2;wakes n>0;");
        for (int n = 0; n <= 40; n++) {
            is("loud in each fourth hour, " + n, loud.quietWell(0, n), n % 4 == 3 ? -1 : 0);
            is("by another one then, " + n, loud.quietWell(1, n), n % 4 == 3 ? 2 : 0);
        }
    }

    @Says(promise = 35, value = "IllegalArgumentException: n.")
    static void quietWellRefused() {
        SnoringWells x = of(VALLEY);
        refused("n", ARGUMENT, 0, 40, n -> x.quietWell(0, n));
    }

    @Says(promise = 36, value = "what 0: the last HOUR of all (NONE: no HOUSES), 10 + h: in how many HOURS HOUSE h draws (NONE: no such one); -2: there is none.")
    static void planEdges() {
        SnoringWells none = of(W);
        is("no houses", none.plan(0), -1);
        for (int h = 0; h < 6; h++) is("no houses, " + h, none.plan(10 + h), -1);
        SnoringWells one = of("well every 2 awake 2;house 1 from 0;");
        is("now", one.plan(0), 0);
        is("house 0", one.plan(10), 0);
        for (int h = 1; h < 6; h++) is("no such one " + h, one.plan(10 + h), -1);
        SnoringWells dry = of("well every 2 awake 2;house 11 from 0;");
        is("there is none", dry.plan(0), -2);
        for (int h = 0; h < 6; h++) is("there is none, " + h, dry.plan(10 + h), -2);
        SnoringWells six = of("well every 8 awake 1;" + "house 1 from 0;".repeat(6));
        is("as late as can be", six.plan(0), 40);
        for (int h = 0; h < 6; h++) is("each " + h, six.plan(10 + h), 8 * h);
    }

    @Says(promise = 36, value = "IllegalArgumentException: another what (10 to 15).")
    static void planRefused() {
        for (String text : new String[] {"", W, VALLEY, "well every 2 awake 2;house 11 from 0;"}) {
            SnoringWells x = of(text);
            for (int what : new int[] {-2, -1, 1, 2, 9, 16, 17, Integer.MIN_VALUE, Integer.MAX_VALUE}) fails("what " + what, ARGUMENT, () -> x.plan(what));
            x.plan(0);
            x.plan(10);
            x.plan(15);
        }
    }

    @Says(promise = 37, value = "How many HOUSES can at most have unlike QUIET HOURS within n HOURS (0 to 40).")
    static void servedEdges() {
        is("no houses", of(W).served(0) + of(W).served(40), 0);
        SnoringWells six = of("well every 2 awake 2;" + "house 1 from 0;".repeat(6));
        for (int n = 0; n <= 7; n++) is("six within " + n, six.served(n), Math.min(n + 1, 6));
        SnoringWells rare = of("well every 8 awake 1;" + "house 1 from 0;".repeat(6));
        is("within 39", rare.served(39), 5);
        is("within 40", rare.served(40), 6);
        is("all dry", of("well every 2 awake 2;house 11 from 0;").served(40), 0);
        is("one of two", of("well every 2 awake 2;house 11 from 0;house 1 from 0;").served(0), 1);
        is("one makes room", of("well every 2 awake 2;well every 12 awake 1;house 1 from 0;house 1 from 1;").served(1), 2);
    }

    @Says(promise = 37, value = "IllegalArgumentException: n.")
    static void servedRefused() {
        SnoringWells x = of(VALLEY);
        refused("n", ARGUMENT, 0, 40, x::served);
        SnoringWells none = new SnoringWells();
        refused("n without houses", ARGUMENT, 0, 40, none::served);
    }

    @Says(promise = 38, value = "HOUSES that have no QUIET HOUR, as bits.")
    static void dryEdges() {
        is("no houses", of(W).dry(), 0);
        String well = "well every 2 awake 2;";
        is("none of six", of(well + "house 10 from 0;".repeat(6)).dry(), 0);
        is("all of six", of(well + "house 11 from 0;".repeat(6)).dry(), 63);
        is("the last", of(well + "house 10 from 0;".repeat(5) + "house 11 from 0;").dry(), 32);
        is("an hour at 40 is one", of("well every 8 awake 1 deep 35 water 0;house 35 from 0;").dry(), 0);
        is("one at 48 is none", of("well every 8 awake 1 deep 36 water 0;house 36 from 0;").dry(), 1);
    }

    // ---- hours to come

    @Says(promise = 39, value = "WATER of a WELL in n HOURS (0 to 200), nothing else being done.")
    static void waterInEdges() {
        SnoringWells x = of("well every 2 awake 1 deep 99 water 0;");
        is("0", x.waterIn(0, 0), 0);
        is("1: awake now", x.waterIn(0, 1), 0);
        is("2", x.waterIn(0, 2), 1);
        is("197", x.waterIn(0, 197), 98);
        is("198", x.waterIn(0, 198), 99);
        is("200: full", x.waterIn(0, 200), 99);
        is("200: not full", of("well every 3 awake 2 shift 1 deep 99 water 0;").waterIn(0, 200), 67);
        is("as it is", x.water() + x.count(3), 0);
    }

    @Says(promise = 39, value = "IllegalArgumentException: n.")
    static void waterInRefused() {
        SnoringWells x = of(VALLEY);
        refused("n", ARGUMENT, 0, 200, n -> x.waterIn(0, n));
    }

    @Says(promise = 40, value = "In how many HOURS (0 to 200) so a WELL has n or more first; NONE: not by then.")
    static void hasInEdges() {
        SnoringWells x = of("well every 3 awake 2 shift 1 deep 99 water 0;");
        is("0 now", x.hasIn(0, 0), 0);
        is("1", x.hasIn(0, 1), 2);
        is("in hour 200", x.hasIn(0, 67), 200);
        is("not by then", x.hasIn(0, 68), -1);
        is("never", x.hasIn(0, 100), -1);
        is("the greatest int", x.hasIn(0, Integer.MAX_VALUE), -1);
        is("more than n now", of(W).hasIn(0, 3), 0);
        // it sinks by dreams: 20 now, one less behind the next hour; first is now
        is("first", of("well every 9 awake 1 shift 1 deep 20;well every 9 awake 1 shift 1 water 0;beside 0 1;").hasIn(0, 20), 0);
    }

    @Says(promise = 40, value = "IllegalArgumentException: n is below 0.")
    static void hasInRefused() {
        SnoringWells x = of(VALLEY);
        refused("n", ARGUMENT, 0, Integer.MAX_VALUE, n -> x.hasIn(0, n));
    }

    @Says(promise = 41, value = "In how many HOURS (0 to 200) so all WATER together is most first.")
    static void fullestEdges() {
        is("no wells", new SnoringWells().fullest(), 0);
        is("full now", of(ten("")).fullest(), 0);
        is("never more", of("well every 2 awake 2 water 0;").fullest(), 0);
        is("in 200", of("well every 3 awake 2 shift 1 deep 99 water 0;").fullest(), 200);
        is("in 199, none in 200", of("well every 3 awake 2 shift 2 deep 99 water 0;").fullest(), 199);
        is("first", of("well every 2 awake 1 deep 1 water 0;").fullest(), 2);
        is("together", of("well every 2 awake 1 deep 1 water 0;well every 2 awake 1 shift 1 deep 5 water 0;").fullest(), 9);
    }

    @Says(promise = 42, value = "In how many HOURS (0 to 200) so two WELLS beside one another have as much first; NONE: not by then.")
    static void levelEdges() {
        is("now", of(W + W + "beside 0 1;").level(0, 1), 0);
        String slow = "well every 3 awake 2 shift 1 deep 99 water 0;well every 2 awake 2 deep 99 water ";
        is("in 200", of(slow + "67;beside 0 1;").level(0, 1), 200);
        is("in 200, the other way", of(slow + "67;beside 0 1;").level(1, 0), 200);
        is("not by then", of(slow + "68;beside 0 1;").level(0, 1), -1);
        is("never", of("well every 2 awake 2 water 1;well every 2 awake 2;beside 0 1;").level(0, 1), -1);
    }

    @Says(promise = 42, value = "IllegalArgumentException: both one, they aren't beside one another.")
    static void levelRefused() {
        SnoringWells x = of(ten(""));
        for (int a = 0; a < 10; a++) {
            for (int b = 0; b < 10; b++) {
                int one = a;
                int other = b;
                boolean beside = Math.abs(a - b) == 1 || Math.abs(a - b) == 9;
                if (beside) is(a + " and " + b, x.level(a, b), 0);
                else fails(a + " and " + b, ARGUMENT, () -> x.level(one, other));
            }
        }
    }

    // ---- rounds read from snores

    @Says(promise = 43, value = "SEEN: how many ROUNDS.")
    static void seenEdges() {
        SnoringWells x = new SnoringWells();
        row(x, 0, 0, filled(24, -1));
        is("all", x.seen(0), 649);
        row(x, 0, 0, filled(24, 0));
        is("none", x.seen(0), 0);
        row(x, 0, 0, filled(11, 0));
        is("asleep for 11: one", x.seen(0), 1);
        is("which", x.roundAt(0, 0), 120101);
        row(x, 0, 0, filled(12, 0));
        is("asleep for 12: none", x.seen(0), 0);
    }

    @Says(promise = 43, value = "IllegalArgumentException: not 1 to 24 numbers, one is none of NONE, 0, 1.")
    static void seenRefused() {
        SnoringWells x = new SnoringWells();
        for (int many = 0; many <= 30; many++) {
            row(x, 0, 0, filled(many, -1));
            if (many >= 1 && many <= 24) is("many " + many, x.seen(0), 649);
            else fails("many " + many, ARGUMENT, () -> x.seen(0));
        }
        for (int place = 0; place < 24; place++) {
            for (long v : new long[] {2, -2, 100}) {
                long[] told = filled(24, -1);
                told[place] = v;
                row(x, 1, 0, told);
                fails(v + " at " + place, ARGUMENT, () -> x.seen(1));
            }
        }
        fails("missing", STATE, () -> x.seen(2));
        fails("no such", NOSUCH, () -> x.seen(4));
    }

    @Says(promise = 44, value = "Of these (by ROUND, awake, shift) the k-th: 10,000 times ROUND, 100 times awake, and shift; NONE: not so many.")
    static void roundAtEdges() {
        SnoringWells x = new SnoringWells();
        row(x, 0, 0, -1);
        is("the first", x.roundAt(0, 0), 20100);
        is("the last", x.roundAt(0, 648), 121211);
        is("one more", x.roundAt(0, 649), -1);
        is("far more", x.roundAt(0, Integer.MAX_VALUE), -1);
        row(x, 0, 0, filled(24, 0));
        is("none", x.roundAt(0, 0), -1);
        row(x, 0, 0, 0);
        is("the first asleep", x.roundAt(0, 0), 20101);
        is("the last asleep", x.roundAt(0, 285), 121111);
        is("no more asleep", x.roundAt(0, 286), -1);
    }

    @Says(promise = 44, value = "IllegalArgumentException: as seen(), k is below 0.")
    static void roundAtRefused() {
        SnoringWells x = new SnoringWells();
        row(x, 0, 0, -1);
        refused("k", ARGUMENT, 0, Integer.MAX_VALUE, k -> x.roundAt(0, k));
        x.tray(1, 0, 0);
        fails("no numbers", ARGUMENT, () -> x.roundAt(1, 0));
        x.tray(1, 0, 25);
        fails("25 numbers", ARGUMENT, () -> x.roundAt(1, 0));
        row(x, 1, 0, 2);
        fails("a 2", ARGUMENT, () -> x.roundAt(1, 0));
        row(x, 1, 0, -2);
        fails("a -2", ARGUMENT, () -> x.roundAt(1, 0));
    }

    @Says(promise = 45, value = "TELLS MOST: how many HOURS behind the TRAY's last (1 to 24); NONE: none fits.")
    static void listenEdges() {
        SnoringWells x = new SnoringWells();
        row(x, 0, 0, 0, -1, 0, 1, -1);
        is("24", x.listen(0), 24);
        row(x, 0, 0, 0, -1, 1, 0);
        is("23", x.listen(0), 23);
        row(x, 0, 0, -1);
        is("1", x.listen(0), 1);
        row(x, 0, 0, filled(24, 0));
        is("none fits", x.listen(0), -1);
        row(x, 0, 0, filled(12, 0));
        is("none fits twelve", x.listen(0), -1);
        row(x, 0, 0, filled(11, 0));
        is("one fits: the first", x.listen(0), 1);
        row(x, 0, 0, filled(24, -1));
        is("behind 24 numbers", x.listen(0), 1);
    }

    @Says(promise = 45, value = "IllegalArgumentException: as seen().")
    static void listenRefused() {
        SnoringWells x = new SnoringWells();
        x.tray(0, 0, 0);
        fails("no numbers", ARGUMENT, () -> x.listen(0));
        x.tray(0, 0, 25);
        fails("25 numbers", ARGUMENT, () -> x.listen(0));
        row(x, 0, 0, 0, 2);
        fails("a 2", ARGUMENT, () -> x.listen(0));
        row(x, 0, 0, 0, -2);
        fails("a -2", ARGUMENT, () -> x.listen(0));
    }

    @Says(promise = 46, value = "WELLS whose ROUND (as it is now, HOUR 0 being now) is among these, as bits.")
    static void whoseEdges() {
        SnoringWells none = new SnoringWells();
        row(none, 0, 0, -1);
        is("no wells", none.whose(0), 0);
        SnoringWells x = of("well every 4 awake 1;".repeat(9) + "well every 4 awake 1 shift 1;hour 999;");
        row(x, 0, 0, -1);
        is("all ten", x.whose(0), 1023);
        row(x, 0, 0, 1);
        is("the last is awake in hour 999", x.whose(0), 512);
        row(x, 0, 0, 0, 1);
        is("the others in the next hour", x.whose(0), 511);
        row(x, 0, 0, filled(24, 0));
        is("none", x.whose(0), 0);
        x.hours(1);
        row(x, 0, 0, 1);
        is("now is another hour", x.whose(0), 511);
        x.coin(9);
        is("woken now", x.whose(0), 1023);
    }

    @Says(promise = 46, value = "IllegalArgumentException: as seen().")
    static void whoseRefused() {
        SnoringWells x = of(VALLEY);
        x.tray(0, 0, 0);
        fails("no numbers", ARGUMENT, () -> x.whose(0));
        x.tray(0, 0, 25);
        fails("25 numbers", ARGUMENT, () -> x.whose(0));
        row(x, 0, 0, 0, 2);
        fails("a 2", ARGUMENT, () -> x.whose(0));
        row(x, 0, 0, 0, -2);
        fails("a -2", ARGUMENT, () -> x.whose(0));
    }

    // ---- trays, images

    @Says(promise = 47, value = "A TRAY is a row of so many 0s.")
    static void trayEdges() {
        SnoringWells x = of(W);
        for (int many = 0; many <= 30; many++) {
            row(x, 0, 3, filled(30, 1));
            x.tray(0, 3, many);
            is("places of " + many, x.copy(0, 0), many);
            x.tray(0, 3, many);
            if (many >= 1 && many <= 11) is("0s " + many, x.seen(0), howManyAsleepFor(many));
            is("a 0 can't be done", x.judge(0, 1), many == 0 ? 0 : 1);
            is("the first can't be", x.judge(0, 0), many == 0 ? -1 : 0);
        }
        x.tray(0, 3, 1);
        is("64 bits", x.write(0, 0, 1L << 40), 1L << 40);
        x.tray(0, 0, 1);
        is("8 bits now", x.write(0, 0, 1L << 40), 0);
    }

    static int howManyAsleepFor(int hours) {
        int fit = 0;
        for (int round = 2; round <= 12; round++) {
            for (int up = 1; up <= round; up++) {
                for (int shift = 0; shift < round; shift++) {
                    boolean asleep = true;
                    for (int h = 0; h < hours; h++) asleep &= (h + shift) % round >= up;
                    if (asleep) fit++;
                }
            }
        }
        return fit;
    }

    @Says(promise = 47, value = "NoSuchElementException: no such TRAY; IllegalArgumentException: no such sort, or not so many.")
    static void trayRefused() {
        SnoringWells x = of(W);
        refused("tray", NOSUCH, 0, 3, t -> x.tray(t, 0, 0));
        refused("sort", ARGUMENT, 0, 3, sort -> x.tray(0, sort, 7));
        refused("many", ARGUMENT, 0, 30, many -> x.tray(1, 2, many));
        is("as laid out at last", x.copy(0, 0) * 100 + x.copy(1, 0), 730);
    }

    @Says(promise = 48, value = "A number comes to a place of a TRAY, cut to its sort: as it is there.")
    static void writeEdges() {
        SnoringWells x = new SnoringWells();
        long[] numbers = {0, 1, -1, 127, 128, -128, -129, 255, 256, 32767, 32768, -32768, -32769, 65535, 65536, Integer.MAX_VALUE, Integer.MAX_VALUE + 1L,
            Integer.MIN_VALUE, Integer.MIN_VALUE - 1L, 1L << 32, Long.MAX_VALUE, Long.MIN_VALUE};
        for (int t = 0; t < 4; t++) x.tray(t, t, 30);
        for (long v : numbers) {
            is("8 bits of " + v, x.write(0, 0, v), (byte) v);
            is("16 bits of " + v, x.write(1, 29, v), (short) v);
            is("32 bits of " + v, x.write(2, 0, v), (int) v);
            is("64 bits of " + v, x.write(3, 29, v), v);
        }
        x.tray(0, 0, 1);
        x.write(0, 0, 3000);
        is("cut: 3000 is -72 there", x.judge(0, 1), 1);
        x.write(0, 0, 255);
        is("cut: 255 is NONE there", x.judge(0, 1), 0);
        x.tray(0, 1, 1);
        x.write(0, 0, 3000 + 65536);
        is("cut: 3000 in 16 bits", x.judge(0, 1), 0);
        x.tray(0, 2, 1);
        x.write(0, 0, 3000 + 65536);
        is("not cut in 32", x.judge(0, 1), 1);
    }

    @Says(promise = 48, value = "IllegalStateException: it is MISSING; IndexOutOfBoundsException: it has no such place.")
    static void writeRefused() {
        SnoringWells x = new SnoringWells();
        for (int place : new int[] {0, -1, 30}) fails("missing, place " + place, STATE, () -> x.write(0, place, 1));
        for (int many : new int[] {0, 1, 29, 30}) {
            x.tray(1, 3, many);
            refused("place of " + many, INDEX, 0, many - 1, place -> x.write(1, place, 1));
        }
        for (int t : new int[] {-1, 4, Integer.MIN_VALUE, Integer.MAX_VALUE}) fails("tray " + t, NOSUCH, () -> x.write(t, 0, 1));
    }

    @Says(promise = 49, value = "Whether a WELL is AWAKE (1, 0) in the HOURS from now on")
    static void copyHours() {
        for (int h = 0; h < 7; h++) {
            SnoringWells x = of("well every 7 awake 3 shift 2;hour " + h + ";");
            x.tray(0, 0, 24);
            x.copy(0, 0);
            row(x, 1, 0, filled(24, 0));
            for (int i = 0; i < 24; i++) if ((h + i + 2) % 7 < 3) x.write(1, i, 1);
            is("as written by hand from hour " + h, x.roundAt(0, 0), x.roundAt(1, 0));
            is("one alone fits", x.seen(0) * 10 + x.seen(1), 11);
        }
    }

    @Says(promise = 49, value = "comes into a TRAY from its first place on, as many as it has places: how many.")
    static void copyEdges() {
        SnoringWells x = of("well every 5 awake 2 shift 4;well every 2 awake 2;hour 999;");
        x.tray(0, 0, 0);
        is("no places", x.copy(0, 0), 0);
        x.tray(0, 0, 1);
        is("one place", x.copy(0, 0), 1);
        is("asleep in hour 999", x.seen(0), 286);
        x.tray(0, 3, 30);
        is("thirty", x.copy(0, 1), 30);
        row(x, 0, 0, filled(24, -1));
        is("all of 24", x.copy(0, 0), 24);
        is("one round fits", x.seen(0), 1);
        is("its shift is the phase now", x.roundAt(0, 0), 50203);
        is("whose", x.whose(0), 1);
        row(x, 1, 1, 7, 7, 7);
        is("what was there is gone", x.copy(1, 1), 3);
        is("three times awake", x.whose(1), 2);
        is("nothing else is done", x.count(7), 0);
    }

    @Says(promise = 50, value = "An IMAGE is made. NoSuchElementException: no such one.")
    static void imageEdges() {
        SnoringWells x = of(VALLEY);
        refused("image", NOSUCH, 0, 2, x::image);
        fails("none was made by a throw", STATE, () -> x.restore(1));
        x.hours(1);
        x.image(1);
        x.hours(1);
        x.image(2);
        for (int i = 0; i < 3; i++) {
            x.restore(i);
            is("each its own, " + i, x.count(3), i);
        }
        x.image(0);
        x.restore(1);
        x.restore(0);
        is("made anew", x.count(3), 2);
    }

    @Says(promise = 51, value = "All is as in an IMAGE.")
    static void restoreEdges() {
        SnoringWells x = of(RING);
        SnoringWells twin = of(RING);
        for (SnoringWells y : new SnoringWells[] {x, twin}) {
            y.draw(0, 2);
            y.lull(3);
            for (int i = 0; i < 9; i++) y.hours(i + 1);
        }
        x.image(0);
        x.undo(5);
        x.thunder();
        x.restore(0);
        is("ten deeds", x.count(7), 10);
        is("all of them", past(x), past(twin));
        read(x, "");
        x.restore(0);
        is("behind another text", x.count(1), 5);
        x.undo(10);
        x.restore(0);
        is("an image stays as it is", x.count(7), 10);
        SnoringWells empty = new SnoringWells();
        empty.image(2);
        read(empty, RING);
        empty.hours(1);
        empty.restore(2);
        is("an empty one", state(empty), state(new SnoringWells()));
    }

    @Says(promise = 51, value = "NoSuchElementException: no such one; IllegalStateException: none was made.")
    static void restoreRefused() {
        SnoringWells x = of(VALLEY);
        for (int i : new int[] {-1, 3, Integer.MIN_VALUE, Integer.MAX_VALUE}) fails("image " + i, NOSUCH, () -> x.restore(i));
        for (int i = 0; i < 3; i++) {
            int image = i;
            fails("none was made " + i, STATE, () -> x.restore(image));
            x.image(i);
            x.restore(i);
        }
        is("as it was", state(x), state(of(VALLEY)));
    }

    @Says(promise = 52, value = "0 LINES, 1 WELLS, 2 HOUSES, 3 HOUR, 4 AWAKE ones, 5 SOUR ones, 6 two beside one another, 7 DEEDS that can be UNDONE, 8 bytes on the tape, 9 1 with a law, else 0")
    static void countEdges() {
        SnoringWells x = new SnoringWells();
        for (int what = 0; what <= 9; what++) is("at first " + what, x.count(what), 0);
        String all = "well every 2 awake 1 shift 1;".repeat(10);
        StringBuilder pairs = new StringBuilder();
        for (int a = 0; a < 10; a++) for (int b = a + 1; b < 10; b++) pairs.append("beside ").append(a).append(" ").append(b).append(";");
        is("lines", read(x, all + pairs + "hour 998;"), 56);
        is("two beside one another: all", x.count(6), 45);
        is("none awake", x.count(4), 0);
        x.thunder();
        is("all awake", x.count(4), 10);
        is("all sour", x.count(5), 10);
        is("no law", x.count(9), 0);
        is("no houses", x.count(2), 0);
        x.hours(99);
        is("hour", x.count(3), 1097);
        is("deeds", x.count(7), 2);
        read(x, W + "house 1 from 0;".repeat(6) + "wakes 1=2;");
        is("six houses", x.count(2), 6);
        is("a law that never holds", x.count(9), 1);
        feed(x, " ".repeat(900));
        is("a full tape", x.count(8), 900);
    }

    @Says(promise = 52, value = "NONE for others.")
    static void otherCounts() {
        SnoringWells x = of(VALLEY);
        for (int what : new int[] {-1, -2, 10, 11, Integer.MIN_VALUE, Integer.MAX_VALUE}) is("what " + what, x.count(what), -1);
    }

    public static void main(String[] args) throws Exception {
        runAll(EdgesTest.class, 1, 52);
    }
}
