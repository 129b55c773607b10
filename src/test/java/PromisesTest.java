import java.util.Arrays;

/** For each promise of the document: ordinary inputs, the edges that it names, and wrong inputs, with answers worked out by hand. */
public final class PromisesTest extends Hand {
    static void p1() {
        SnoringWells x = new SnoringWells();
        is("wells", x.count(1), 0);
        is("houses", x.count(2), 0);
        is("tape", x.count(8), 0);
        is("lines", x.count(0), 0);
        is("hour", x.count(3), 0);
        is("law", x.count(9), 0);
        for (int t = 0; t < 4; t++) {
            int tray = t;
            fails("write to tray " + t, STATE, () -> x.write(tray, 0, 0));
        }
        for (int i = 0; i < 3; i++) {
            int image = i;
            fails("image " + i, STATE, () -> x.restore(image));
        }
        is("NONE", SnoringWells.NONE, -1);
    }

    static void p2() {
        SnoringWells x = new SnoringWells();
        is("first", x.feed(0x77656c6c, 0x20657665, 0x72792034, 0x20617761, 0x6b652031), 20);
        is("second", x.feed(0x3b202020, -1, -1, -1, -1), 40);
        is("bytes in their order", x.hills(21), 1);
        is("round", x.well(0, 0), 4);
        for (int i = 1; i <= 45; i++) is("feed " + i, x.feed(0, 0, 0, 0, 0), 20 * i);
        is("beyond 900", x.feed(0, 0, 0, 0, 0), -1);
        is("nothing changed", x.count(8), 900);
        is("a byte of 0 is no token", x.hills(900), -11);
        is("empty then", x.count(8), 0);
        x.feed(0x77656c6c, 0x20657665, 0x72792034, 0x20617761, 0x6b6520ff);
        is("a byte of 255", x.hills(20), -11);
        is("its place", x.fault(1), 19);
    }

    static void p3() {
        SnoringWells x = new SnoringWells();
        fails("n above the tape", ARGUMENT, () -> x.hills(1));
        fails("n below 0", ARGUMENT, () -> x.hills(-1));
        is("no text", x.hills(0), 0);
        is("lines", read(x, VALLEY), 9);
        is("wells", x.count(1), 3);
        is("rest of the tape is gone", x.count(8), 0);
        x.hours(1);
        is("a fault", read(x, "well every 4 awake 9;"), -13);
        is("all else stays: wells", x.count(1), 3);
        is("all else stays: deeds", x.count(7), 1);
        is("all else stays: lines", x.count(0), 9);
        feed(x, "hour 7;");
        fails("too long", ARGUMENT, () -> x.hills(21));
        is("the tape stays", x.count(8), 20);
        is("as long as it is", x.hills(7), 1);
        is("no deeds", x.count(7), 0);
        is("no wells", x.count(1), 0);
        is("no law", x.count(9), 0);
        is("hour", x.count(3), 7);
        is("only the first bytes", of("hour 12;").count(3), 12);
        feed(x, "hour 12;");
        is("cut within", x.hills(6), -12);
        is("no fault in blanks", read(x, " \n  \n"), 0);
        is("blanks where they aren't needed", read(x, "well\nevery4awake1shift3deep5water2 ; beside"), -12);
        is("place of the end", x.fault(1), 43);
        is("without blanks", read(x, "well every4awake1shift3deep5water2;hour12;"), 2);
        is("shift", x.well(0, 2), 3);
        is("leading zeros", read(x, "well every 004 awake 01;"), 1);
        is("later ones strike", read(x, "hour 5;hour 6;wakes 1=2;wakes 1=1;well every 2 awake 1;well every 2 awake 1 shift 1;beside 0 1;"), 7);
        is("the later hour", x.count(3), 6);
        is("the later law", x.chain(0, 1), 2);
        is("well by well", x.count(1), 2);
    }

    static void p4() {
        SnoringWells x = new SnoringWells();
        is("at first", x.fault(0), 0);
        is("place at first", x.fault(1), -1);
        is("others", x.fault(2), -1);
        is("others below", x.fault(-1), -1);
        read(x, "well ?");
        is("fault", x.fault(0), 1);
        is("place", x.fault(1), 5);
        fails("a throw", ARGUMENT, () -> x.hills(99));
        is("stays behind a throw", x.fault(0), 1);
        x.image(0);
        read(x, W);
        is("without", x.fault(0), 0);
        is("place without", x.fault(1), -1);
        x.restore(0);
        is("no part of an image", x.fault(0), 0);
        fault("Well every 4 awake 1;", 1, 0);
        fault("well\tevery 4 awake 1;", 1, 4);
        fault("hour 1000;", 1, 5);
        fault("hour 12345;", 1, 5);
        fault("hour 0001;", 1, 5);
        fault("wakes 1=1000;", 1, 8);
        fault("wakes 1/2=1;", 1, 7);
        fault("foo;", 2, 0);
        fault(";", 2, 0);
        fault(W + ";", 2, 21);
        fault("wellevery 4 awake 1;", 2, 0);
        fault("well 4;", 2, 5);
        fault("well every awake", 2, 11);
        fault("well every 4 awake 1", 2, 20);
        fault("well every 4 awake 1   ", 2, 23);
        fault("well every 4 awake 1 water 1 deep 5;", 2, 29);
        fault("well every 4 awake 1 deep 5 shift 1;", 2, 28);
        fault("well every 4 awake 1 shift 1 shift 1;", 2, 29);
        fault(W + "beside 0;", 2, 29);
        fault(W + "house 1 from;", 2, 33);
        fault(W + "house 1 0;", 2, 29);
        fault(W + "house 1 from 0 x;", 2, 36);
        fault("hour;", 2, 4);
        fault("hour 1 2;", 2, 7);
        fault("wakes;", 2, 5);
        fault("wakes 1;", 2, 7);
        fault("wakes 1=;", 2, 8);
        fault("wakes 1=1=1;", 2, 9);
        fault("wakes (1=1);", 2, 8);
        fault("wakes [1]=1;", 2, 8);
        fault("wakes [1=1;", 2, 10);
        fault("wakes 1=1];", 2, 9);
        fault("wakes 1+not 1=1;", 2, 8);
        fault("wakes -1=1;", 2, 6);
        fault("wakes 1=1 and;", 2, 13);
        fault("wakes 1=1 or or 1=1;", 2, 13);
        fault("wakes nn=1;", 2, 6);
        fault("wakes da db=1;", 2, 9);
        fault("well every 1 awake 1;", 3, 11);
        fault("well every 13 awake 1;", 3, 11);
        fault("well every 4 awake 0;", 3, 19);
        fault("well every 4 awake 5;", 3, 19);
        fault("well every 4 awake 1 shift 4;", 3, 27);
        fault("well every 4 awake 1 deep 0;", 3, 26);
        fault("well every 4 awake 1 deep 100;", 3, 26);
        fault("well every 4 awake 1 water 11;", 3, 27);
        fault("well every 4 awake 1 deep 5 water 6;", 3, 34);
        fault("beside 0 1;", 3, 7);
        fault(W + "beside 0 1;", 3, 30);
        fault(W + "beside 0 0;", 3, 30);
        fault(W + "house 0 from 0;", 3, 27);
        fault(W + "house 100 from 0;", 3, 27);
        fault(W + "house 1 from 1;", 3, 34);
        fault(W + "house 1 from 0 0 1;", 3, 38);
        fault(W.repeat(10) + "well", 4, 210);
        fault(W + "house 1 from 0;".repeat(6) + "house ?", 4, 111);
        fault("wakes not not not not not not not 1=1;", 4, 30);
        fault("wakes [[[[[[[1=1", 4, 12);
        fault("wakes ((((((( 1", 4, 12);
        fault("wakes not [not (((( 1))))=1];", 4, 18);
        is("six deep", read(x, "wakes not [not (((1)))=1];wakes not not not not not not 1=1;wakes [[[[[[1=1]]]]]] and [((((1))))=1];"), 3);
        fault("well every 4 awake 9 ?", 3, 19);
        fault("well every 4 ? awake 9", 1, 13);
    }

    static void p5() {
        SnoringWells x = of(VALLEY);
        int[] due = {3, 1, 2, 5, 2, 2, 0, 0, 5};
        for (int k = 0; k < due.length; k++) is("well 1, " + k, x.well(1, k), due[k]);
        is("deep if not told", x.well(0, 3), 10);
        is("water if not told", x.well(0, 4), 10);
        is("shift if not told", x.well(0, 2), 0);
        is("awake", x.well(0, 6), 1);
        is("water as deep", of("well every 2 awake 1 deep 33;").well(0, 4), 33);
        is("phase by hour", of("well every 5 awake 1 shift 3;hour 999;").well(0, 5), 2);
        is("beside twice", of(W + W + "beside 1 0;beside 0 1;").well(0, 8), 2);
        x.thunder();
        is("sour", x.well(1, 7), 1);
        is("shift of a woken one", x.well(1, 2), 0);
        fails("no such what", ARGUMENT, () -> x.well(0, 9));
        fails("what below 0", ARGUMENT, () -> x.well(0, -1));
        fails("no such well", NOSUCH, () -> x.well(3, 0));
        fails("well below 0", NOSUCH, () -> x.well(-1, 0));
        fails("the first told comes", NOSUCH, () -> x.well(3, 9));
    }

    static void p6() {
        SnoringWells x = of(VALLEY);
        is("needs", x.house(0, 0), 3);
        is("wells", x.house(0, 1), 1);
        is("needs of 1", x.house(1, 0), 2);
        is("wells of 1", x.house(1, 1), 6);
        is("twice the same", of(W + W + "house 99 from 1 1 1;").house(0, 1), 2);
        fails("no such what", ARGUMENT, () -> x.house(0, 2));
        fails("no such house", NOSUCH, () -> x.house(2, 0));
        fails("house below 0", NOSUCH, () -> x.house(-1, 7));
    }

    static void p7() {
        SnoringWells x = of(VALLEY);
        int[] due = {1, 3, 0, 4, 7, 5, 0};
        for (int h = 0; h < due.length; h++) {
            is("hour " + h, x.awake(), due[h]);
            x.hours(1);
        }
        is("none", new SnoringWells().awake(), 0);
    }

    static void p8() {
        is("all", of(VALLEY).water(), 22);
        is("none", new SnoringWells().water(), 0);
        SnoringWells x = of(VALLEY);
        x.draw(0, 2);
        is("less what is drawn", x.water(), 20);
    }

    static void p9() {
        SnoringWells x = of(VALLEY);
        is("no such well", x.draw(3, 1), -1);
        is("well below 0", x.draw(-1, 1), -1);
        is("n of 0", x.draw(0, 0), -1);
        is("n of 100", x.draw(0, 100), -1);
        is("asleep", x.draw(1, 1), -2);
        is("asleep and too much", x.draw(1, 99), -2);
        is("not so much", x.draw(0, 11), -4);
        is("nothing happened", x.count(7), 0);
        is("none woken", x.draw(0, 2), 0);
        is("one woken", x.draw(0, 3), 1);
        is("one is not sour", x.well(1, 7), 0);
        is("all that it has", x.draw(0, 5), 0);
        is("empty", x.draw(0, 1), -4);
        SnoringWells r = of(RING);
        is("a chain", r.draw(0, 1), 4);
        is("all of a chain are sour", r.count(5), 4);
        is("sour", r.draw(1, 1), -3);
        is("sour comes ahead of too much", r.draw(1, 99), -3);
        is("the drawn one is not sour", r.well(0, 7), 0);
        SnoringWells y = of("well every 2 awake 1;well every 2 awake 1 shift 1;well every 2 awake 1 shift 1;beside 0 1;beside 1 2;wakes wa=10;");
        is("by how things were ahead of the deed", y.draw(0, 5), 2);
        is("a chain of one by one is sour too", y.count(5), 2);
        SnoringWells never = of("well every 2 awake 2 deep 99;");
        is("99", never.draw(0, 99), 0);
        is("without a law", of(RING.replace("wakes 1=1;", "")).draw(0, 9), 0);
    }

    static void p10() {
        SnoringWells x = of("well every 4 awake 2 shift 3;well every 3 awake 3;hour 5;");
        is("no such", x.lull(2), -11);
        is("never sleeps", x.lull(1), -13);
        is("shift: phase is 2 in hour 5", x.lull(0), 1);
        is("phase", x.well(0, 5), 2);
        is("asleep", x.lull(0), -12);
        is("one deed", x.count(7), 1);
        SnoringWells r = of(RING);
        r.draw(0, 1);
        is("a sour one can be lulled", r.lull(1), 2);
        is("and is sour till the hour ends", r.well(1, 7), 1);
        r.hours(1);
        is("asleep then: sour no more", r.well(1, 7), 0);
        is("below 0", r.lull(-1), -11);
    }

    static void p11() {
        SnoringWells x = of(RING);
        is("no such", x.coin(5), -1);
        is("below 0", x.coin(-1), -1);
        is("awake", x.coin(0), -2);
        is("nothing happened", x.count(7), 0);
        is("others", x.coin(4), 3);
        is("the one with the coin is not sour", x.well(4, 7), 0);
        is("others are", x.count(5), 3);
        is("awake now", x.awake(), 31);
        SnoringWells y = of("well every 2 awake 1 shift 1;well every 2 awake 1 shift 1;beside 0 1;wakes n=0;");
        is("one other", y.coin(0), 1);
        is("it itself doesn't count to two", y.count(5), 0);
        SnoringWells z = of("well every 2 awake 1 shift 1;well every 2 awake 1 shift 1;beside 0 1;");
        is("without a law", z.coin(1), 0);
        is("woken", z.awake(), 2);
        is("phase", z.well(1, 5), 0);
        z.undo(1);
        z.thunder();
        z.lull(1);
        is("asleep and sour still", z.count(5), 2);
        is("a coin in a sour sleeper", z.coin(1), 0);
        is("it is woken, and sour as it was", z.well(1, 6) + z.well(1, 7), 2);
    }

    static void p12() {
        SnoringWells x = of(VALLEY);
        is("two", x.thunder(), 2);
        is("sour", x.count(5), 2);
        is("awake", x.awake(), 7);
        is("none", x.thunder(), 0);
        is("deeds all the same", x.count(7), 2);
        SnoringWells one = of("well every 2 awake 1;well every 2 awake 1 shift 1;");
        is("one", one.thunder(), 1);
        is("not sour", one.count(5), 0);
        is("no wells", new SnoringWells().thunder(), 0);
    }

    static void p13() {
        SnoringWells x = of(VALLEY);
        is("one goes from 2 to 1", x.hours(1), 1);
        is("water of 1", x.well(1, 4), 4);
        is("water of 2", x.well(2, 4), 9);
        is("one more", x.hours(1), 1);
        is("hour", x.count(3), 2);
        is("many at once are one deed", x.hours(99), 1);
        is("deeds", x.count(7), 3);
        is("hour then", x.count(3), 101);
        fails("0", ARGUMENT, () -> x.hours(0));
        fails("100", ARGUMENT, () -> x.hours(100));
        fails("below 0", ARGUMENT, () -> x.hours(-5));
        is("a throw changes nothing", x.count(3), 101);
        String asleep = "well every 9 awake 1 shift 1 deep ";
        SnoringWells full = of(asleep + "5;" + asleep + "50 water 20;beside 0 1;");
        is("not deep enough to take", full.hours(1), 1);
        is("so it stays", full.well(0, 4), 5);
        SnoringWells row = of(asleep + "20 water 0;" + asleep + "20 water 9;" + asleep + "20 water 0;beside 1 2;beside 0 1;");
        row.hours(1); // 1 10 1, then 2 9 1, then 2 8 2
        is("pairs by number, 0", row.well(0, 4), 2);
        is("pairs by number, 1", row.well(1, 4), 8);
        is("pairs by number, 2", row.well(2, 4), 2);
        SnoringWells near = of(asleep + "20 water 5;" + asleep + "20 water 6;beside 0 1;");
        near.hours(1);
        is("1 above stays", near.well(0, 4), 6);
        SnoringWells order = of(asleep + "20 water 2;" + asleep + "20 water 1;" + asleep + "20 water 0;beside 1 2;beside 0 1;beside 0 2;");
        order.hours(1); // 3 2 1: 0-1 no, 0-2 gives 2 2 2, 1-2 no
        is("by the lesser, then the other", order.well(0, 4) * 100 + order.well(1, 4) * 10 + order.well(2, 4), 222);
        SnoringWells sour = of("well every 4 awake 2 shift 2;well every 4 awake 3 shift 3;");
        sour.thunder();
        sour.hours(1);
        is("awake then: sour still", sour.count(5), 2);
        sour.hours(1);
        is("asleep then: no more", sour.well(0, 7), 0);
        is("the other one still", sour.well(1, 7), 1);
        is("no wells", new SnoringWells().hours(3), 0);
    }

    static void p14() {
        SnoringWells x = of(VALLEY);
        x.draw(0, 3);
        x.lull(1);
        x.hours(2);
        is("the latest", x.undo(1), 2);
        is("hour", x.count(3), 0);
        is("lulled still", x.well(1, 6), 0);
        is("two", x.undo(2), 0);
        is("water", x.water(), 22);
        is("shift", x.well(1, 2), 2);
        fails("none left", ARGUMENT, () -> x.undo(1));
        for (int i = 0; i < 12; i++) x.hours(1);
        is("10 at most", x.count(7), 10);
        fails("11", ARGUMENT, () -> x.undo(11));
        fails("0", ARGUMENT, () -> x.undo(0));
        fails("below 0", ARGUMENT, () -> x.undo(-1));
        is("three", x.undo(3), 7);
        is("hour 9", x.count(3), 9);
        fails("not so many", ARGUMENT, () -> x.undo(8));
        x.thunder();
        is("the rest", x.undo(8), 0);
        is("the eldest were forgotten", x.count(3), 2);
        x.thunder();
        x.undo(1);
        SnoringWells s = of(RING);
        s.thunder();
        s.undo(1);
        is("sour undone", s.count(5), 0);
        is("awake undone", s.awake(), 1);
    }

    static void judged(SnoringWells x, int place, int why, long... told) {
        row(x, 3, 3, told);
        is("place in " + Arrays.toString(told), x.judge(3, 0), place);
        is("why in " + Arrays.toString(told), x.judge(3, 1), why);
    }

    static void p15() {
        SnoringWells x = of(VALLEY);
        row(x, 0, 1, 3, 2000, 2102, 3000, -1);
        is("all can be", x.judge(0, 0), -1);
        is("why", x.judge(0, 1), 0);
        is("water then", x.judge(0, 2), 19);
        is("awake then", x.judge(0, 3), 5);
        is("as if", x.count(7), 0);
        is("as it was", x.awake(), 1);
        judged(x, -1, 0, 10);
        judged(x, 0, 4, 11);
        judged(x, 1, 4, 5, 6);
        judged(x, 0, 1, 0);
        judged(x, 0, 1, 300);
        judged(x, 0, 1, 301);
        judged(x, 0, 2, 101);
        judged(x, 0, 2, 2001);
        judged(x, 0, 1, 2003);
        judged(x, 0, 1, 2099);
        judged(x, 0, 2, 2100);
        judged(x, 0, 1, 2103);
        judged(x, 0, 1, 1999);
        judged(x, 0, 1, 1000);
        judged(x, 0, 1, 2200);
        judged(x, 0, 1, 3001);
        judged(x, 0, 1, -2);
        judged(x, 0, 1, Long.MIN_VALUE);
        judged(x, 0, 1, (1L << 32) + 1);
        judged(x, 0, 1, (1L << 32) - 1);
        judged(x, 2, 3, 3000, -1, 201);
        judged(of("well every 3 awake 3;"), 0, 3, 2000);
        row(x, 1, 1, 2, 5, 11, 1);
        is("water up to that one", x.judge(1, 2), 15);
        is("awake up to that one", x.judge(1, 3), 3);
        x.tray(2, 0, 0);
        is("nothing told", x.judge(2, 0), -1);
        is("water now", x.judge(2, 2), 22);
        is("no wells: hours", judgeOf(new SnoringWells(), -1, 3000, -1), -1);
        fails("no such what", ARGUMENT, () -> x.judge(0, 4));
        fails("what below 0", ARGUMENT, () -> x.judge(0, -1));
        SnoringWells y = new SnoringWells();
        fails("missing", STATE, () -> y.judge(0, 4));
        fails("no such tray", NOSUCH, () -> y.judge(4, 4));
        fails("tray below 0", NOSUCH, () -> y.judge(-1, 0));
    }

    static int judgeOf(SnoringWells x, long... told) {
        row(x, 0, 1, told);
        return x.judge(0, 0);
    }

    static void p16() {
        SnoringWells x = of(VALLEY);
        row(x, 0, 1, 3, 2000, 2102, 3000, -1, -1);
        is("all", x.perform(0), 6);
        is("each a deed", x.count(7), 6);
        is("hour", x.count(3), 2);
        x.undo(6);
        is("as it was", x.awake(), 1);
        row(x, 0, 1, 1, 101, 1);
        is("till one can't be", x.perform(0), 1);
        is("the one", x.water(), 21);
        row(x, 1, 0, new long[30]);
        is("none", x.perform(1), 0);
        long[] hours = new long[30];
        Arrays.fill(hours, -1);
        row(x, 1, 0, hours);
        is("thirty", x.perform(1), 30);
        is("ten of them can be undone", x.count(7), 10);
        fails("missing", STATE, () -> x.perform(2));
        fails("no such tray", NOSUCH, () -> x.perform(4));
    }

    static void p17() {
        SnoringWells none = new SnoringWells();
        int seed = seedFor(2, 3, 0, 4, 1, 5);
        is("without wells: hours alone, no more numbers", none.year(seed, 6), 2);
        is("hours", none.count(3), 2);
        is("deeds", none.count(7), 2);
        String one = "well every 2 awake 2 deep 99;";
        SnoringWells a = of(one);
        int drawing = seedFor(2);
        int x = drawing;
        for (int i = 0; i < 3; i++) x = 1103515245 * x + 12345;
        is("drawn", a.year(drawing, 1), 1);
        is("1 and number modulo 5", a.water(), 98 - (x >>> 16) % 5);
        SnoringWells b = of(one + one + one);
        int w = 1103515245 * (1103515245 * drawing + 12345) + 12345 >>> 16;
        b.year(drawing, 1);
        is("from the well by its number", b.well(w % 3, 4) < 99, true);
        SnoringWells c = of(one);
        is("never sleeps: it can't be lulled", c.year(seedFor(4), 1), 0);
        SnoringWells sleeper = of("well every 2 awake 1 shift 1;");
        is("a coin", sleeper.year(seedFor(5), 1), 1);
        is("woken", sleeper.awake(), 1);
        is("lulled", sleeper.year(seedFor(4), 1), 1);
        is("asleep", sleeper.awake(), 0);
        is("no coin in an awake one", c.year(seedFor(5), 1), 0);
        is("an hour", c.year(seedFor(1), 1), 1);
        is("hour", c.count(3), 1);
        SnoringWells v = of(VALLEY);
        v.image(0);
        int done = v.year(-7, 30);
        int after = v.awake();
        is("thirty times", done, 22);
        is("each a deed", v.count(7), 10);
        v.restore(0);
        is("the same once more", v.year(-7, 30), done);
        is("and all as then", v.awake(), after);
        fails("0 times", ARGUMENT, () -> v.year(1, 0));
        fails("31 times", ARGUMENT, () -> v.year(1, 31));
        fails("below 0", ARGUMENT, () -> v.year(1, -1));
    }

    static void p18() {
        is("without wells", new SnoringWells().joint(), 1);
        is("valley", of(VALLEY).joint(), 12);
        is("the longest", of(ALL_ROUNDS).joint(), 27720);
        is("one that never sleeps too", of("well every 2 awake 2;well every 7 awake 7;").joint(), 14);
        is("11", of("well every 11 awake 1;well every 11 awake 2;").joint(), 11);
        is("8 and 12", of("well every 8 awake 1;well every 12 awake 2;").joint(), 24);
    }

    static void p19() {
        SnoringWells x = of(VALLEY);
        is("all awake", x.together(7, true), 4);
        is("all asleep", x.together(7, false), 2);
        is("one", x.together(2, true), 1);
        is("now", x.together(1, true), 0);
        is("empty set", x.together(0, false), 0);
        is("empty set without wells", new SnoringWells().together(0, true), 0);
        SnoringWells never = of("well every 4 awake 1;well every 4 awake 1 shift 1;");
        is("never", never.together(3, true), -1);
        is("asleep", never.together(3, false), 1);
        is("all of them, last hour", of(ALL_ROUNDS + "hour 1;").together(1023, true), 27719);
        is("within it", of(ALL_ROUNDS).together(1023, true), 0);
        fails("others", ARGUMENT, () -> x.together(8, true));
        fails("below 0", ARGUMENT, () -> x.together(-1, true));
    }

    static void p20() {
        SnoringWells x = of(VALLEY);
        is("it is", x.wakesIn(0), 0);
        is("next", x.wakesIn(1), 1);
        is("in 3", x.wakesIn(2), 3);
        x.hours(2);
        is("behind two", x.wakesIn(0), 2);
        is("never sleeps", of("well every 3 awake 3 shift 2;").wakesIn(0), 0);
        fails("no such", NOSUCH, () -> x.wakesIn(3));
        fails("below 0", NOSUCH, () -> x.wakesIn(-1));
    }

    static void p21() {
        SnoringWells x = of(VALLEY);
        is("awake", x.stays(0), 2);
        is("asleep for one", x.stays(1), 1);
        is("asleep", x.stays(2), 3);
        x.hours(1);
        is("awake for one more", x.stays(0), 1);
        is("for ever", of("well every 3 awake 3;").stays(0), -1);
        fails("no such", NOSUCH, () -> x.stays(3));
    }

    static void p22() {
        SnoringWells x = of(VALLEY);
        int[] due = {2, 5, 4, 1};
        for (int n = 0; n < 4; n++) is("with " + n, x.withAwake(n), due[n]);
        is("no wells", new SnoringWells().withAwake(0), 1);
        int all = 0;
        SnoringWells big = of(ALL_ROUNDS);
        for (int n = 0; n <= 10; n++) all += big.withAwake(n);
        is("all hours", all, 27720);
        is("ten once", big.withAwake(10), 1);
        fails("above", ARGUMENT, () -> x.withAwake(4));
        fails("below", ARGUMENT, () -> x.withAwake(-1));
    }

    static void p23() {
        SnoringWells x = of(VALLEY);
        is("in", x.stillest(0), 2);
        is("how many", x.stillest(1), 0);
        is("no wells", new SnoringWells().stillest(0), 0);
        is("no wells, how many", new SnoringWells().stillest(1), 0);
        SnoringWells two = of("well every 2 awake 1;well every 2 awake 1 shift 1;well every 3 awake 2;");
        is("fewest of all", two.stillest(1), 1);
        is("the first", two.stillest(0), 2);
        fails("what", ARGUMENT, () -> x.stillest(2));
        fails("what below 0", ARGUMENT, () -> x.stillest(-1));
    }

    static void p24() {
        SnoringWells x = of(VALLEY);
        is("3", x.chain(0, 3), 2);
        is("2", x.chain(0, 2), 0);
        is("0", x.chain(0, 0), 2);
        is("at a sleeper", x.chain(1, 5), 4);
        is("another", x.chain(2, 5), 2);
        is("ring", of(RING).chain(0, 1), 30);
        is("a itself is woken by none", of(RING).chain(4, 1), 14);
        is("a yawn is a noise of 0", of(RING.replace("1=1", "n>0")).chain(0, 1), 10);
        is("as if", x.count(7), 0);
        fails("100", ARGUMENT, () -> x.chain(0, 100));
        fails("below 0", ARGUMENT, () -> x.chain(0, -1));
        fails("no such", NOSUCH, () -> x.chain(3, 100));
        // well 1 has hour 25, shift 3, round 5: phase 3, asleep
        for (String law : new String[] {"da=30", "db=40", "wa=7", "wb=9", "n=6", "hour=1", "phase=3", "many=2", "1+2*3=7", "(1+2)*3=9", "10-3-2=5",
            "999*999*999=100*100*100", "999*999+999*999=100*100*100", "0-999*999-999*999=0-100*100*100", "(0-999)*999*999=0-100*100*100",
            "999*999+999*999-999*999=2*999+1", "1=2 or 1=1 and 2=2", "not 1=2 and 1=1", "not [1=1 and 1=2]",
            "1=1 or 1=1 and 1=2", "not not 1=1", "1<2", "2>1", "not 2<1", "[1=2 or 1=1] and 2=2", "2-3*2=0-4"}) {
            is(law, holds(law), true);
        }
        for (String law : new String[] {"da=10", "hour=25", "many=1", "1<1", "1>1", "not 1=1", "[1=1 or 1=1] and 1=2", "1=1 and 1=2 or 1=2", "999*999=100*100*100"}) {
            is(law, holds(law), false);
        }
    }

    static void p25() {
        SnoringWells x = of(VALLEY);
        is("wakes", x.wakes(0, 1, 3), true);
        is("too low", x.wakes(0, 1, 2), false);
        is("not beside", x.wakes(0, 2, 3), false);
        is("awake", x.wakes(1, 0, 3), false);
        is("from a sleeper", x.wakes(1, 2, 99), true);
        is("by a yawn alone", of(RING).wakes(0, 2, 5), false);
        fails("both one", ARGUMENT, () -> x.wakes(0, 0, 3));
        fails("n", ARGUMENT, () -> x.wakes(0, 1, 100));
        fails("n below 0", ARGUMENT, () -> x.wakes(0, 1, -1));
        fails("no such a", NOSUCH, () -> x.wakes(3, 3, 3));
        fails("no such b", NOSUCH, () -> x.wakes(0, 3, 100));
    }

    static void p26() {
        SnoringWells x = of(VALLEY);
        is("2", x.quietest(0), 2);
        is("asleep", x.quietest(1), 0);
        x.hours(1);
        is("1 wakes 2 by 3 alone", x.quietest(1), 2);
        is("bounded by water", of("well every 2 awake 1 water 7;").quietest(0), 7);
        is("99", of("well every 2 awake 1 deep 99;").quietest(0), 99);
        is("empty", of("well every 2 awake 1 water 0;").quietest(0), 0);
        is("a greater one that is quiet", of("well every 2 awake 1;well every 2 awake 1 shift 1;beside 0 1;wakes n<9;").quietest(0), 10);
        SnoringWells sour = of(RING);
        sour.thunder();
        is("sour", sour.quietest(1), 0);
        fails("no such", NOSUCH, () -> x.quietest(3));
    }

    static void p27() {
        SnoringWells x = of(VALLEY);
        is("0 wakes 1", x.wakers(1, 3), 1);
        is("none wakes 2", x.wakers(2, 3), 0);
        is("awake", x.wakers(0, 3), 0);
        SnoringWells r = of(RING);
        is("by yawns", r.wakers(4, 1), 1);
        r.coin(1);
        fails("n", ARGUMENT, () -> x.wakers(0, 100));
        fails("no such", NOSUCH, () -> x.wakers(3, 100));
        is("sleepers are none", of(RING.replace("awake 2;well", "awake 2 shift 2;well")).wakers(1, 1), 0);
    }

    static void p28() {
        String two = "well every 2 awake 1;well every 2 awake 1;well every 2 awake 1 shift 1;beside 0 2;beside 1 2;wakes ";
        SnoringWells x = of(two + "n>7;");
        is("n", x.leastNoise(2, 0), 8);
        is("the first such", x.leastNoise(2, 1), 0);
        is("awake", x.leastNoise(0, 0), -1);
        is("awake, which", x.leastNoise(0, 1), -1);
        SnoringWells y = of(two.replace("awake 1;well every 2 awake 1 shift", "awake 1 deep 20;well every 2 awake 1 shift") + "n+da>25;");
        is("the lower n", y.leastNoise(2, 0), 6);
        is("by the second", y.leastNoise(2, 1), 1);
        is("99", of(two + "n=99;").leastNoise(2, 0), 99);
        is("by none", of(two + "n>99;").leastNoise(2, 0), -1);
        is("by yawns", of(RING).leastNoise(4, 0), 0);
        fails("what", ARGUMENT, () -> x.leastNoise(0, 2));
        fails("no such", NOSUCH, () -> x.leastNoise(3, 2));
    }

    static void p29() {
        SnoringWells r = of(RING);
        is("2 from 0: both 1 and 3", r.shield(0, 1, 2, 0), 2);
        is("which", r.shield(0, 1, 2, 1), 10);
        is("4 from 0: by 2 alone", r.shield(0, 1, 4, 0), 1);
        is("which one", r.shield(0, 1, 4, 1), 4);
        is("at once", r.shield(0, 1, 1, 0), -1);
        is("at once, which", r.shield(0, 1, 1, 1), -1);
        is("not woken", r.shield(1, 1, 0, 0), 0);
        is("not woken, which", r.shield(1, 1, 0, 1), 0);
        is("itself", r.shield(0, 1, 0, 0), 0);
        is("itself asleep", r.shield(1, 1, 1, 1), 0);
        SnoringWells line = of("well every 2 awake 1;" + "well every 2 awake 1 shift 1;".repeat(3) + "beside 0 2;beside 2 1;beside 1 3;wakes 1=1;");
        is("of like ones the least set", line.shield(0, 5, 3, 1), 2);
        SnoringWells back = of("well every 2 awake 1 shift 1;well every 2 awake 1 shift 1;well every 2 awake 1;beside 2 0;beside 0 1;wakes 1=1;");
        is("well 0 is a shield", back.shield(2, 0, 1, 1), 1);
        fails("n", ARGUMENT, () -> r.shield(0, 100, 1, 0));
        fails("what", ARGUMENT, () -> r.shield(0, 1, 1, 2));
        fails("no such a", NOSUCH, () -> r.shield(5, 100, 1, 0));
        fails("no such b", NOSUCH, () -> r.shield(0, 1, 5, 2));
    }

    static void p30() {
        is("no wells", new SnoringWells().loudest(0), -1);
        is("the first of like ones", of(VALLEY).loudest(3), 0);
        is("none wakes any", of(VALLEY.replace("wakes n>2 or wa>9 and n=0;", "")).loudest(3), 0);
        String line = "well every 2 awake 1;" + "well every 2 awake 1 shift 1;".repeat(3) + "beside 1 2;beside 1 3;beside 0 1;wakes n>0;";
        is("a sleeper too", of(line).loudest(1), 1);
        is("yawns count", of(RING).loudest(1), 0);
        SnoringWells x = of(VALLEY);
        fails("n", ARGUMENT, () -> x.loudest(100));
        fails("n below 0", ARGUMENT, () -> x.loudest(-1));
        fails("n without wells", ARGUMENT, () -> new SnoringWells().loudest(100));
    }

    static void p31() {
        SnoringWells v = of(VALLEY);
        is("by none", v.chorus(3, 0), -1);
        is("by none, which", v.chorus(3, 1), -1);
        v.thunder();
        is("none asleep", v.chorus(3, 0), 0);
        is("none asleep, which", v.chorus(3, 1), 0);
        is("no wells", new SnoringWells().chorus(0, 0), 0);
        is("one", of(RING).chorus(1, 1), 1);
        // awake 0 1 2, asleep 3 4 5: 0-3, 0-4, 1-4, 1-5, 2-3, 2-4
        String six = "well every 2 awake 1;".repeat(3) + "well every 2 awake 1 shift 1;".repeat(3) + "beside 0 3;beside 0 4;beside 1 4;beside 1 5;beside 2 3;beside 2 4;wakes n>0;";
        is("two", of(six).chorus(1, 0), 2);
        is("the least set", of(six).chorus(1, 1), 3);
        is("too low", of(six).chorus(0, 0), -1);
        fails("n", ARGUMENT, () -> v.chorus(100, 0));
        fails("what", ARGUMENT, () -> v.chorus(0, 2));
        fails("what below 0", ARGUMENT, () -> v.chorus(0, -1));
    }

    static void p32() {
        SnoringWells r = of(RING);
        is("at once", r.yawns(0, 1, 1), 1);
        is("the other way", r.yawns(0, 1, 3), 1);
        is("two", r.yawns(0, 1, 2), 2);
        is("three", r.yawns(0, 1, 4), 3);
        is("awake", r.yawns(1, 1, 0), 0);
        is("itself", r.yawns(1, 1, 1), 0);
        is("not woken", of(VALLEY).yawns(0, 3, 2), 0);
        fails("n", ARGUMENT, () -> r.yawns(0, 100, 1));
        fails("no such a", NOSUCH, () -> r.yawns(5, 100, 1));
        fails("no such b", NOSUCH, () -> r.yawns(0, 1, 5));
    }

    static void p33() {
        is("now", of(VALLEY).loudHour(0, 3), 0);
        SnoringWells x = of("well every 4 awake 4;well every 4 awake 2;well every 9 awake 8;beside 0 1;beside 0 2;wakes n>0;");
        is("both sleep in hour 26", x.loudHour(0, 1), 26);
        is("none at all", x.loudHour(0, 0), 0);
        is("as if", x.count(3), 0);
        SnoringWells late = of("well every 4 awake 4;well every 11 awake 10 shift 3;beside 0 1;wakes hour=5 and wb>9;hour 100;");
        // awake but for hours 106, 117, 128, ...: hour modulo 24 is 10, 21, 8, 19, never 5 within 40
        is("never: the first", late.loudHour(0, 1), 0);
        fails("n", ARGUMENT, () -> x.loudHour(0, 100));
        fails("no such", NOSUCH, () -> x.loudHour(3, 100));
    }

    static void p34() {
        SnoringWells x = of(VALLEY);
        is("valley", x.quietHours(0), 1237252644882L);
        is("always", of("well every 2 awake 2;house 10 from 0;").quietHours(0), (1L << 41) - 1);
        is("never so much", of("well every 2 awake 2;house 11 from 0;").quietHours(0), 0);
        is("by turns", of("well every 4 awake 1;house 1 from 0;").quietHours(0), 0x11111111111L);
        SnoringWells sour = of("well every 4 awake 1 shift 3;well every 4 awake 2 shift 3;house 1 from 0;");
        sour.lull(1);
        sour.thunder();
        is("sour till it sleeps", sour.quietHours(0), 0x11111111110L);
        is("water that comes", of("well every 4 awake 1 water 0;house 4 from 0;").quietHours(0), 0x11111111100L);
        fails("no such", NOSUCH, () -> x.quietHours(2));
        fails("below 0", NOSUCH, () -> x.quietHours(-1));
    }

    static void p35() {
        SnoringWells x = of(VALLEY);
        is("house 0", x.quietWell(0, 1), 0);
        is("house 1", x.quietWell(1, 1), 1);
        is("house 1 in 3", x.quietWell(1, 3), 2);
        is("none now", x.quietWell(1, 0), -1);
        is("by number", of("well every 2 awake 2;well every 2 awake 2;house 1 from 1 0;").quietWell(0, 40), 0);
        fails("41", ARGUMENT, () -> x.quietWell(0, 41));
        fails("below 0", ARGUMENT, () -> x.quietWell(0, -1));
        fails("no such", NOSUCH, () -> x.quietWell(2, 41));
    }

    static void p36() {
        SnoringWells x = of(VALLEY);
        is("last", x.plan(0), 3);
        is("house 0", x.plan(10), 1);
        is("house 1", x.plan(11), 3);
        is("no such one", x.plan(12), -1);
        is("no houses", of(W).plan(0), -1);
        is("no houses, one", of(W).plan(15), -1);
        SnoringWells none = of("well every 2 awake 2;house 99 from 0;house 1 from 0;");
        is("none", none.plan(0), -2);
        is("none for one", none.plan(11), -2);
        is("none, and no such one", none.plan(12), -2);
        is("none, and no such one, the last", none.plan(15), -2);
        fails("none, another what", ARGUMENT, () -> none.plan(16));
        SnoringWells six = of("well every 2 awake 2;" + "house 1 from 0;".repeat(6));
        for (int h = 0; h < 6; h++) is("one behind the other " + h, six.plan(10 + h), h);
        is("six", six.plan(0), 5);
        // 0 draws in every hour, 1 in even ones, 2 in hour 0 of 4: last is 2, so 2 has 0, 1 has 2, 0 has 1
        SnoringWells turn = of("well every 2 awake 2;well every 2 awake 1;well every 4 awake 1;house 1 from 0;house 1 from 1;house 1 from 2;");
        is("soonest", turn.plan(0), 2);
        is("turn 0", turn.plan(10), 1);
        is("turn 1", turn.plan(11), 2);
        is("turn 2", turn.plan(12), 0);
        is("four for one well by 12", of("well every 12 awake 1;" + "house 1 from 0;".repeat(4)).plan(0), 36);
        is("as late as 40", of("well every 8 awake 1;" + "house 1 from 0;".repeat(6)).plan(0), 40);
        is("as late as 40, the last house", of("well every 8 awake 1;" + "house 1 from 0;".repeat(6)).plan(15), 40);
        is("five for one well by 12", of("well every 12 awake 1;" + "house 1 from 0;".repeat(5)).plan(0), -2);
        for (int what : new int[] {1, 9, 16, -1, Integer.MIN_VALUE}) fails("what " + what, ARGUMENT, () -> x.plan(what));
    }

    static void p37() {
        SnoringWells x = of(VALLEY);
        is("0", x.served(0), 0);
        is("1", x.served(1), 1);
        is("2", x.served(2), 1);
        is("3", x.served(3), 2);
        SnoringWells five = of("well every 12 awake 1;" + "house 1 from 0;".repeat(5));
        is("now", five.served(0), 1);
        is("11", five.served(11), 1);
        is("12", five.served(12), 2);
        is("40", five.served(40), 4);
        is("no houses", new SnoringWells().served(40), 0);
        is("shifted on", of("well every 2 awake 2;well every 12 awake 1;house 1 from 0;house 1 from 1;").served(1), 2);
        fails("41", ARGUMENT, () -> x.served(41));
        fails("below 0", ARGUMENT, () -> x.served(-1));
    }

    static void p38() {
        is("none", of(VALLEY).dry(), 0);
        is("no houses", new SnoringWells().dry(), 0);
        is("one", of("well every 2 awake 2 water 5;house 5 from 0;house 6 from 0;").dry(), 2);
        is("always loud", of("well every 4 awake 2;well every 4 awake 2 shift 2;beside 0 1;house 1 from 0 1;wakes n>0;").dry(), 1);
    }

    static void p39() {
        SnoringWells x = of(VALLEY);
        int[] one = {2, 4, 4, 5};
        int[] two = {10, 9, 10, 10};
        for (int n = 0; n < 4; n++) {
            is("1 in " + n, x.waterIn(1, n), one[n]);
            is("2 in " + n, x.waterIn(2, n), two[n]);
        }
        is("200", of("well every 12 awake 1 deep 99 water 0;").waterIn(0, 200), 99);
        is("100", of("well every 2 awake 1 deep 99 water 0;").waterIn(0, 100), 50);
        is("as if", x.count(3), 0);
        fails("201", ARGUMENT, () -> x.waterIn(0, 201));
        fails("below 0", ARGUMENT, () -> x.waterIn(0, -1));
        fails("no such", NOSUCH, () -> x.waterIn(3, 201));
    }

    static void p40() {
        SnoringWells x = of(VALLEY);
        is("5", x.hasIn(1, 5), 3);
        is("too much", x.hasIn(1, 6), -1);
        is("now", x.hasIn(0, 10), 0);
        is("0", x.hasIn(0, 0), 0);
        is("the greatest int", x.hasIn(0, Integer.MAX_VALUE), -1);
        SnoringWells slow = of("well every 3 awake 2 deep 99 water 0;");
        is("in hour 198", slow.hasIn(0, 66), 198);
        is("not by then", slow.hasIn(0, 67), -1);
        SnoringWells edge = of("well every 3 awake 2 shift 1 deep 99 water 0;");
        is("in hour 200", edge.hasIn(0, 67), 200);
        fails("below 0", ARGUMENT, () -> x.hasIn(0, -1));
        fails("no such", NOSUCH, () -> x.hasIn(3, -1));
    }

    static void p41() {
        is("valley", of(VALLEY).fullest(), 3);
        is("no wells", new SnoringWells().fullest(), 0);
        is("full now", of("well every 2 awake 1;").fullest(), 0);
        is("never full", of("well every 3 awake 2 deep 99 water 0;").fullest(), 198);
        is("200", of("well every 3 awake 2 shift 1 deep 99 water 0;").fullest(), 200);
    }

    static void p42() {
        SnoringWells x = of(VALLEY);
        is("never", x.level(0, 1), -1);
        is("the other way", x.level(1, 0), -1);
        is("now", of(W + W + "beside 0 1;").level(0, 1), 0);
        // both asleep each second hour: 9 0 becomes 8 2, then 8 4, then 8 6, then 8 8
        String asleep = "well every 2 awake 1 shift 1 deep 9";
        is("by dreams", of(asleep + ";" + asleep + " water 0;beside 0 1;").level(1, 0), 7);
        fails("not beside", ARGUMENT, () -> x.level(0, 2));
        fails("both one", ARGUMENT, () -> x.level(1, 1));
        fails("no such a", NOSUCH, () -> x.level(3, 3));
        fails("no such b", NOSUCH, () -> x.level(0, 3));
    }

    static void p43() {
        SnoringWells x = new SnoringWells();
        row(x, 0, 0, 0);
        is("asleep", x.seen(0), 286);
        row(x, 0, 0, 1);
        is("awake", x.seen(0), 363);
        row(x, 0, 2, -1);
        is("not heard", x.seen(0), 649);
        row(x, 0, 3, 1, 0, 0, 0, 0, 0, 0, 0, 0, 0, 0, 0, 1);
        is("one of 12", x.seen(0), 1);
        row(x, 0, 3, 1, 0, 0, 0, 0, 0, 0, 0, 0, 0, 0, 0, 0);
        is("none", x.seen(0), 0);
        x.tray(1, 0, 24);
        is("24 asleep", x.seen(1), 0);
        x.tray(1, 0, 25);
        fails("25", ARGUMENT, () -> x.seen(1));
        x.tray(1, 0, 0);
        fails("0", ARGUMENT, () -> x.seen(1));
        row(x, 1, 3, 0, 2);
        fails("2", ARGUMENT, () -> x.seen(1));
        row(x, 1, 3, 0, -2);
        fails("-2", ARGUMENT, () -> x.seen(1));
        row(x, 1, 3, 1L << 32);
        fails("a long one", ARGUMENT, () -> x.seen(1));
        fails("missing", STATE, () -> x.seen(2));
        fails("no such", NOSUCH, () -> x.seen(4));
    }

    static void p44() {
        SnoringWells x = new SnoringWells();
        row(x, 0, 0, -1, -1);
        is("first", x.roundAt(0, 0), 20100);
        is("by shift", x.roundAt(0, 1), 20101);
        is("by awake", x.roundAt(0, 2), 20200);
        is("by round", x.roundAt(0, 4), 30100);
        is("last", x.roundAt(0, 648), 121211);
        is("no more", x.roundAt(0, 649), -1);
        is("far", x.roundAt(0, Integer.MAX_VALUE), -1);
        row(x, 0, 0, 1, 0, 1, 0);
        is("every second", x.roundAt(0, 0), 20100);
        fails("below 0", ARGUMENT, () -> x.roundAt(0, -1));
        row(x, 1, 0, 2);
        fails("as seen", ARGUMENT, () -> x.roundAt(1, 0));
        fails("missing", STATE, () -> x.roundAt(2, -1));
        fails("no such", NOSUCH, () -> x.roundAt(-1, -1));
    }

    static void p45() {
        SnoringWells x = new SnoringWells();
        row(x, 0, 0, 1, 0, 0, 1, 0, 0, 1, 0, 0, 1);
        is("one fits", x.seen(0), 1);
        is("it tells nothing more: the first", x.listen(0), 1);
        row(x, 0, 0, 1, 0, 1, 0, 1, 0, 1, 0, 1, 0, 1, 0, 1, 0);
        is("one fits: the first", x.listen(0), 1);
        row(x, 0, 0, 1, 0, 0, 0, 0, 0, 0, 0, 0, 0, 0, 0, 0);
        is("none fits", x.listen(0), -1);
        // rounds of 8 to 12 that are awake for 1 to 7 less than them: 1, 2, 3, 4, 5 of them; awake next in hour 8: 5, in hour 9: 8
        row(x, 0, 0, 1, 0, 0, 0, 0, 0, 0, 0);
        is("how many", x.seen(0), 15);
        is("most evenly: 8 and 7", x.listen(0), 2);
        // the same, the last of the 24 hours behind the tray is as good as any: nothing was heard
        row(x, 0, 0, -1);
        is("649 rounds, each by all its shifts: all hours alike", x.listen(0), 1);
        row(x, 1, 0, 2);
        fails("as seen", ARGUMENT, () -> x.listen(1));
        fails("missing", STATE, () -> x.listen(2));
        fails("no such", NOSUCH, () -> x.listen(4));
    }

    static void p46() {
        SnoringWells x = of(VALLEY + "hour 2;");
        x.tray(0, 0, 24);
        for (int w = 0; w < 3; w++) {
            x.copy(0, w);
            is("its own " + w, x.whose(0), 1 << w);
        }
        row(x, 1, 1, -1);
        is("all", x.whose(1), 7);
        row(x, 1, 1, 0, 0, 1);
        is("now is hour 0", x.whose(1), 3);
        row(x, 1, 1, 0, 1);
        is("2 wakes next", x.whose(1), 4);
        row(x, 1, 1, 0, -1, 1);
        is("in hour 4 all are awake", x.whose(1), 7);
        is("no wells", whoseWithout(), 0);
        row(x, 2, 1, 7);
        fails("as seen", ARGUMENT, () -> x.whose(2));
        fails("missing", STATE, () -> x.whose(3));
        fails("no such", NOSUCH, () -> x.whose(4));
    }

    static int whoseWithout() {
        SnoringWells x = new SnoringWells();
        row(x, 0, 0, 1);
        return x.whose(0);
    }

    static void p47() {
        SnoringWells x = new SnoringWells();
        x.tray(0, 0, 30);
        is("0s", x.write(0, 29, 5), 5);
        x.tray(0, 3, 30);
        x.tray(1, 0, 1);
        is("0s anew", x.seen(1), 286);
        x.write(1, 0, 1);
        x.tray(1, 0, 1);
        is("0s once more", x.seen(1), 286);
        x.tray(3, 3, 0);
        is("an empty one is not missing", x.perform(3), 0);
        fails("sort 4", ARGUMENT, () -> x.tray(0, 4, 1));
        fails("sort below 0", ARGUMENT, () -> x.tray(0, -1, 1));
        fails("31", ARGUMENT, () -> x.tray(0, 0, 31));
        fails("below 0", ARGUMENT, () -> x.tray(2, 0, -1));
        fails("no change by a throw", STATE, () -> x.perform(2));
        fails("no such", NOSUCH, () -> x.tray(4, 9, 99));
        fails("below", NOSUCH, () -> x.tray(-1, 0, 1));
    }

    static void p48() {
        SnoringWells x = new SnoringWells();
        long v = 0x123456789abcdef0L;
        x.tray(0, 0, 2);
        x.tray(1, 1, 2);
        x.tray(2, 2, 2);
        x.tray(3, 3, 2);
        is("8 bits", x.write(0, 0, v), (byte) v);
        is("16 bits", x.write(1, 1, v), (short) v);
        is("32 bits", x.write(2, 0, v), (int) v);
        is("64 bits", x.write(3, 1, v), v);
        is("128 in 8", x.write(0, 1, 128), -128);
        is("127 in 8", x.write(0, 1, 127), 127);
        is("256 in 8", x.write(0, 1, 256), 0);
        is("-1 in 16", x.write(1, 1, -1), -1);
        fails("place 2", INDEX, () -> x.write(0, 2, 0));
        fails("place below 0", INDEX, () -> x.write(0, -1, 0));
        fails("no such", NOSUCH, () -> x.write(4, 99, 0));
        fails("missing", STATE, () -> new SnoringWells().write(0, -1, 0));
    }

    static void p49() {
        SnoringWells x = of(VALLEY);
        x.tray(0, 0, 6);
        is("many", x.copy(0, 2), 6);
        is("seen", x.whose(0), 4);
        row(x, 1, 0, 0, 0, 0, 1, 1, 1);
        is("as written by hand", x.seen(0), x.seen(1));
        for (int k = 0; k < x.seen(1); k++) is("round " + k, x.roundAt(0, k), x.roundAt(1, k));
        x.tray(1, 3, 30);
        is("thirty", x.copy(1, 0), 30);
        x.tray(1, 3, 0);
        is("none", x.copy(1, 0), 0);
        x.hours(3);
        x.tray(1, 3, 3);
        x.copy(1, 2);
        row(x, 2, 0, 1, 1, 1);
        is("from now on", x.seen(1), x.seen(2));
        fails("no such well", NOSUCH, () -> x.copy(1, 3));
        fails("no such well comes ahead of a missing tray", NOSUCH, () -> x.copy(3, 3));
        fails("no such tray", NOSUCH, () -> x.copy(4, 0));
        fails("missing", STATE, () -> x.copy(3, 0));
    }

    static void p50() {
        SnoringWells x = of(VALLEY);
        x.draw(0, 2);
        x.image(2);
        x.hours(5);
        read(x, RING);
        x.restore(2);
        is("wells", x.count(1), 3);
        is("water", x.water(), 20);
        is("deeds", x.count(7), 1);
        x.undo(1);
        is("undone", x.water(), 22);
        x.image(2);
        x.thunder();
        x.restore(2);
        is("made anew", x.water(), 22);
        is("no deeds", x.count(7), 0);
        fails("no such", NOSUCH, () -> x.image(3));
        fails("below 0", NOSUCH, () -> x.image(-1));
    }

    static void p51() {
        SnoringWells x = of(VALLEY);
        x.thunder();
        x.tray(0, 0, 1);
        x.image(0);
        x.hours(9);
        feed(x, "hour 1;");
        x.write(0, 0, 1);
        x.restore(0);
        is("sour", x.count(5), 2);
        is("hour", x.count(3), 0);
        is("lines", x.count(0), 9);
        is("law", x.count(9), 1);
        is("the tape stays", x.count(8), 20);
        is("trays stay", x.seen(0), 363);
        x.hours(7);
        x.restore(0);
        is("once more", x.count(3), 0);
        x.undo(1);
        x.restore(0);
        is("deeds once more", x.count(7), 1);
        x.undo(1);
        is("all as ahead of thunder", x.awake(), 1);
        SnoringWells d = of(RING);
        for (int i = 0; i < 10; i++) d.hours(1);
        d.image(1);
        read(d, VALLEY);
        for (int i = 0; i < 10; i++) d.thunder();
        d.restore(1);
        for (int i = 9; i >= 0; i--) {
            is("deeds of an image, left", d.undo(1), i);
            is("deeds of an image, hour", d.count(3), i);
            is("deeds of an image, sour", d.count(5), 0);
            is("deeds of an image, wells", d.count(1), 5);
        }
        fails("none was made", STATE, () -> x.restore(1));
        fails("no such", NOSUCH, () -> x.restore(3));
        fails("below 0", NOSUCH, () -> x.restore(-1));
        SnoringWells y = new SnoringWells();
        y.image(1);
        read(y, VALLEY);
        y.restore(1);
        is("an image without wells", y.count(1), 0);
    }

    static void p52() {
        SnoringWells x = of(VALLEY + "hour 6;beside 1 0;");
        feed(x, "x");
        x.thunder();
        int[] due = {11, 3, 2, 6, 3, 3, 2, 1, 20, 1};
        for (int k = 0; k < due.length; k++) is("count " + k, x.count(k), due[k]);
        is("others", x.count(10), -1);
        is("below 0", x.count(-1), -1);
        is("no law", of(W).count(9), 0);
    }

    public static void main(String[] args) {
        Silent[] all = {PromisesTest::p1, PromisesTest::p2, PromisesTest::p3, PromisesTest::p4, PromisesTest::p5, PromisesTest::p6, PromisesTest::p7,
            PromisesTest::p8, PromisesTest::p9, PromisesTest::p10, PromisesTest::p11, PromisesTest::p12, PromisesTest::p13, PromisesTest::p14,
            PromisesTest::p15, PromisesTest::p16, PromisesTest::p17, PromisesTest::p18, PromisesTest::p19, PromisesTest::p20, PromisesTest::p21,
            PromisesTest::p22, PromisesTest::p23, PromisesTest::p24, PromisesTest::p25, PromisesTest::p26, PromisesTest::p27, PromisesTest::p28,
            PromisesTest::p29, PromisesTest::p30, PromisesTest::p31, PromisesTest::p32, PromisesTest::p33, PromisesTest::p34, PromisesTest::p35,
            PromisesTest::p36, PromisesTest::p37, PromisesTest::p38, PromisesTest::p39, PromisesTest::p40, PromisesTest::p41, PromisesTest::p42,
            PromisesTest::p43, PromisesTest::p44, PromisesTest::p45, PromisesTest::p46, PromisesTest::p47, PromisesTest::p48, PromisesTest::p49,
            PromisesTest::p50, PromisesTest::p51, PromisesTest::p52};
        for (int i = 0; i < all.length; i++) {
            promise = "promise " + (i + 1);
            all[i].now();
        }
        System.out.println(checks + " checks, " + wrong + " wrong");
        if (wrong != 0) System.exit(1);
    }
}
