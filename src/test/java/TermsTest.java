import java.util.Arrays;

/** Each sentence of the document's "Terms" that names a boundary case has a test of its own. */
public final class TermsTest extends Sentences {
    /** A number is read from the least to the most, and is fault 3 one below and one above, and far above. */
    static void bounds(String ahead, String behind, int least, int most) {
        is(ahead + least, read(new SnoringWells(), ahead + least + behind) > 0, true);
        is(ahead + most, read(new SnoringWells(), ahead + most + behind) > 0, true);
        if (least > 0) fault(ahead + (least - 1) + behind, 3, ahead.length());
        if (least > 0) fault(ahead + 0 + behind, 3, ahead.length());
        if (most < 999) fault(ahead + (most + 1) + behind, 3, ahead.length());
        if (most < 999) fault(ahead + 999 + behind, 3, ahead.length());
    }

    static String asleep(int deep, int water) {
        return "well every 9 awake 1 shift 1 deep " + deep + " water " + water + ";";
    }

    /** Well 0 awake, so many asleep around it, beside it alone; any noise above 0 wakes. */
    static String star(int around) {
        StringBuilder s = new StringBuilder("well every 4 awake 2;").append("well every 4 awake 2 shift 2;".repeat(around));
        for (int b = 1; b <= around; b++) s.append("beside 0 ").append(b).append(";");
        return s.append("wakes n>0;").toString();
    }

    /** Well 0 awake, 1 to 9 asleep, each beside the next one. */
    static String line(String law) {
        StringBuilder s = new StringBuilder("well every 4 awake 2;").append("well every 4 awake 2 shift 2;".repeat(9));
        for (int b = 1; b <= 9; b++) s.append("beside ").append(b - 1).append(" ").append(b).append(";");
        return s.append("wakes ").append(law).append(";").toString();
    }

    static void told(SnoringWells x, long v, int why) {
        row(x, 3, 3, v);
        is("why " + v, x.judge(3, 1), why);
        is("place of " + v, x.judge(3, 0), why == 0 ? -1 : 0);
    }

    // ---- what it is, ==== 1: the text

    @Says("An object is used for at most 512 calls after it has been made")
    static void calls512() {
        SnoringWells x = new SnoringWells();
        for (int i = 0; i < 511; i++) x.hours(99);
        is("the last call", x.count(3), 511 * 99);
        SnoringWells y = of(VALLEY);
        int calls = (VALLEY.length() + 19) / 20 + 1;
        y.image(0);
        for (calls++; calls < 511; calls += 2) {
            y.restore(0);
            y.year(calls, 30);
        }
        y.restore(0);
        is("as at first", y.awake(), 1);
    }

    @Says("NONE = -1: There is none.")
    static void none() {
        is("NONE", SnoringWells.NONE, -1);
    }

    @Says("THE HILLS are a TEXT of at most 900 bytes")
    static void textOf900() {
        SnoringWells x = new SnoringWells();
        is("lines in 900 bytes", read(x, "hour 1;".repeat(128) + "    "), 128);
        is("a line that ends with the last byte", read(x, " ".repeat(893) + "hour 7;"), 1);
        is("its hour", x.count(3), 7);
        fault(" ".repeat(894) + "hour 7", 2, 900);
        fault(" ".repeat(899) + "?", 1, 899);
        fault("a".repeat(900), 2, 0);
        fault("1".repeat(900), 1, 0);
        is("a law of nearly 900 bytes", read(x, "wakes 1" + "+1".repeat(440) + "=440;"), 1);
        is("a law of nearly 900 bytes, too", read(x, "wakes 1=1" + " or 1=1".repeat(127) + ";"), 1);
    }

    @Says("(without one: no WELLS, no HOUSES)")
    static void withoutText() {
        SnoringWells x = new SnoringWells();
        is("wells", x.count(1), 0);
        is("houses", x.count(2), 0);
        fails("well 0", NOSUCH, () -> x.well(0, 0));
        fails("house 0", NOSUCH, () -> x.house(0, 0));
    }

    @Says("{ LINE ; }")
    static void linesEndBySemicolons() {
        SnoringWells x = new SnoringWells();
        is("no line", read(x, ""), 0);
        is("blanks alone", read(x, " \n"), 0);
        is("one", read(x, "hour 1;"), 1);
        fault(";", 2, 0);
        fault("hour 1;;", 2, 7);
        fault("hour 1 hour 2;", 2, 7);
        fault("hour 1", 2, 6);
    }

    @Says("well every N awake N [ shift N ] [ deep N ] [ water N ]")
    static void wellsParts() {
        for (int set = 0; set < 8; set++) {
            String text = "well every 4 awake 1" + ((set & 1) != 0 ? " shift 3" : "") + ((set & 2) != 0 ? " deep 7" : "") + ((set & 4) != 0 ? " water 2" : "") + ";";
            SnoringWells x = of(text);
            is("shift of " + text, x.well(0, 2), (set & 1) != 0 ? 3 : 0);
            is("deep of " + text, x.well(0, 3), (set & 2) != 0 ? 7 : 10);
            is("water of " + text, x.well(0, 4), (set & 4) != 0 ? 2 : (set & 2) != 0 ? 7 : 10);
        }
        String head = "well every 4 awake 1 ";
        fault(head + "water 1 deep 5;", 2, 29);
        fault(head + "water 1 shift 1;", 2, 29);
        fault(head + "deep 5 shift 1;", 2, 28);
        fault(head + "shift 1 shift 1;", 2, 29);
        fault(head + "deep 5 deep 5;", 2, 28);
        fault(head + "water 5 water 5;", 2, 29);
        fault(head + "shift;", 2, 26);
        fault(head + "deep;", 2, 25);
        fault(head + "water;", 2, 26);
        fault("well awake 1 every 4;", 2, 5);
        fault("well every 4 shift 1;", 2, 13);
    }

    @Says("beside N N")
    static void besideParts() {
        fault(W + W + "beside;", 2, 48);
        fault(W + W + "beside 0;", 2, 50);
        fault(W + W + W + "beside 0 1 2;", 2, 74);
        fault(W + W + "beside 0 well;", 2, 51);
    }

    @Says("house N from N { N }")
    static void houseParts() {
        is("one well", of(W + W + "house 1 from 1;").house(0, 1), 2);
        is("all wells", of(W.repeat(10) + "house 1 from 0 1 2 3 4 5 6 7 8 9;").house(0, 1), 1023);
        fault(W + "house;", 2, 26);
        fault(W + "house 1;", 2, 28);
        fault(W + "house 1 from;", 2, 33);
        fault(W + "house 1 from 0 from 0;", 2, 36);
        fault(W + "house from 0;", 2, 27);
    }

    @Says("TRUTH: BOTH { or BOTH }; BOTH: UNIT { and UNIT }")
    static void orAndAnd() {
        is("and binds", holds("1=1 or 1=2 and 1=2"), true);
        is("and binds ahead of or", holds("1=2 and 1=2 or 1=1"), true);
        is("one of three", holds("1=2 or 1=1 or 1=2"), true);
        is("two of three", holds("1=1 and 1=2 and 1=1"), false);
        is("none", holds("1=2 or 1=2 or 1=2"), false);
        is("all", holds("1=1 and 1=1 and 1=1"), true);
        fault("wakes or 1=1;", 2, 6);
        fault("wakes and 1=1;", 2, 6);
        fault("wakes 1=1 or;", 2, 12);
        fault("wakes 1=1 and;", 2, 13);
        fault("wakes 1=1 and or 1=1;", 2, 14);
        fault("wakes 1=1 1=1;", 2, 10);
        fault("wakes;", 2, 5);
    }

    @Says("UNIT: not UNIT, [ TRUTH ], or SUM, one of = < >, SUM.")
    static void units() {
        is("not binds its unit alone", holds("not 1=1 or 1=1"), true);
        is("not binds its unit alone, and", holds("not 1=2 and 1=2"), false);
        is("not of a bracket", holds("not [1=2 or 1=2]"), true);
        is("equal is not below", holds("5<5"), false);
        is("equal is not above", holds("5>5"), false);
        is("one below", holds("4<5"), true);
        is("one above", holds("6>5"), true);
        is("one off", holds("4=5"), false);
        for (String yes : new String[] {"1=1", "1<2", "2>1"}) {
            for (String other : new String[] {"3=3", "3<4", "4>3"}) is(yes + " and " + other, holds(yes + " and " + other), true);
            for (String no : new String[] {"1=2", "2<1", "1>2"}) {
                is(yes + " or " + no, holds(no + " or " + yes), true);
                is(yes + " and " + no, holds(yes + " and " + no), false);
                is("not " + no, holds("not " + no + " and not not " + yes), true);
            }
            is("not " + yes, holds("not " + yes), false);
        }
        fault("wakes 1;", 2, 7);
        fault("wakes 1=;", 2, 8);
        fault("wakes =1;", 2, 6);
        fault("wakes 1=1=1;", 2, 9);
        fault("wakes 1<>1;", 2, 8);
        fault("wakes not;", 2, 9);
        fault("wakes [];", 2, 7);
        fault("wakes [1];", 2, 8);
        fault("wakes [1=1;", 2, 10);
        fault("wakes 1=1];", 2, 9);
        fault("wakes [1=1)", 2, 10);
        fault("wakes [1=1]=1;", 2, 11);
    }

    @Says("SUM: TERM { + TERM | - TERM }; TERM: ATOM { * ATOM };")
    static void sums() {
        is("from the left", holds("10-3-2=5"), true);
        is("plus behind minus", holds("10-3+2=9"), true);
        is("times ahead", holds("2+3*4=14"), true);
        is("times on both sides", holds("2*3-4*5=0-14"), true);
        fault("wakes +1=1;", 2, 6);
        fault("wakes -1=1;", 2, 6);
        fault("wakes *1=1;", 2, 6);
        fault("wakes 1+=1;", 2, 8);
        fault("wakes 1-=1;", 2, 8);
        fault("wakes 1*=1;", 2, 8);
        fault("wakes 1+-1=1;", 2, 8);
        fault("wakes 1*-1=1;", 2, 8);
        fault("wakes 1=1+;", 2, 10);
    }

    @Says("ATOM: N, da, db, wa, wb, n, hour, phase, many, ( SUM ).")
    static void atoms() {
        is("least number", holds("0=0"), true);
        is("greatest number", holds("999-998=1"), true);
        for (String s : new String[] {"da=30", "db=40", "wa=7", "wb=9", "n=6", "hour=1", "phase=3", "many=2"}) is(s, holds(s), true);
        is("brackets", holds("(1+2)*3=9"), true);
        is("brackets within", holds("((2))*(1+(2-1))=4"), true);
        for (String no : new String[] {"a", "b", "d", "w", "nn", "every", "awake", "not", "or", "and", "well", "water", "hours", "dab"}) {
            fault("wakes " + no + "=;", 2, no.equals("not") ? 9 : 6);
        }
        fault("wakes da1=1;", 2, 8);
        fault("wakes ()=1;", 2, 7);
        fault("wakes (1=1);", 2, 8);
        fault("wakes (1;", 2, 8);
        fault("wakes (1]=1;", 2, 8);
        fault("wakes 1)=1;", 2, 7);
        fault("wakes ([1=1])=1;", 2, 7);
        fault("wakes 1 2=1;", 2, 8);
    }

    @Says("At most six of not [ ( within one another.")
    static void sixWithinOneAnother() {
        is("six of not", holds("not not not not not not 1=1"), true);
        is("six of [", holds("[[[[[[1=1]]]]]]"), true);
        is("six of (", holds("((((((1))))))=1"), true);
        is("six of all", holds("not [not [((5))=5]]"), true);
        is("six on both sides", holds("((((((1))))))=((((((1))))))"), true);
        is("six, and six behind them", holds("[[[[[[1=1]]]]]] and not not not not not not 1=1 and [[[[[[1=1]]]]]]"), true);
        is("many, but not within one another", holds("(1)+(1)+(1)+(1)+(1)+(1)+(1)+(1)=8"), true);
        is("not is behind its unit no more", holds("not 1=2 and not 1=2 and not 1=2 and not 1=2 and not 1=2 and not 1=2 and not 1=2"), true);
        fault("wakes not not not not not not not 1=1;", 4, 30);
        fault("wakes [[[[[[[1=1]]]]]]];", 4, 12);
        fault("wakes (((((((1)))))))=1;", 4, 12);
        fault("wakes 1=(((((((1)))))));", 4, 14);
        fault("wakes not [not [((( 5)))=5]];", 4, 18);
        fault("wakes [[[[[[1=1]]]]]] and [[[[[[[1=1", 4, 32);
        fault("wakes [[[[[[(1)=1]]]]]];", 4, 12);
        fault("wakes not not not not not not (1)=1;", 4, 30);
    }

    @Says("its ROUND of 2 to 12 HOURS")
    static void roundBounds() {
        bounds("well every ", " awake 1;", 2, 12);
        is("2", of("well every 2 awake 1;").well(0, 0), 2);
        is("12", of("well every 12 awake 1;").well(0, 0), 12);
    }

    @Says("of which it is awake 1 to all of them")
    static void awakeBounds() {
        bounds("well every 12 awake ", ";", 1, 12);
        bounds("well every 2 awake ", ";", 1, 2);
        is("all", of("well every 12 awake 12;").well(0, 1), 12);
    }

    @Says("shift 0 to the ROUND less 1 (0)")
    static void shiftBounds() {
        bounds("well every 12 awake 1 shift ", ";", 0, 11);
        bounds("well every 2 awake 1 shift ", ";", 0, 1);
        is("not told", of("well every 12 awake 1;").well(0, 2), 0);
        is("11", of("well every 12 awake 1 shift 11;").well(0, 2), 11);
    }

    @Says("DEEP 1 to 99 (10)")
    static void deepBounds() {
        bounds("well every 4 awake 1 deep ", ";", 1, 99);
        is("not told", of(W).well(0, 3), 10);
        is("99", of("well every 4 awake 1 deep 99;").well(0, 3), 99);
    }

    @Says("WATER 0 to as DEEP (as DEEP)")
    static void waterBounds() {
        bounds("well every 4 awake 1 deep 99 water ", ";", 0, 99);
        bounds("well every 4 awake 1 deep 1 water ", ";", 0, 1);
        bounds("well every 4 awake 1 water ", ";", 0, 10);
        is("not told", of("well every 4 awake 1 deep 77;").well(0, 4), 77);
        is("nor how deep", of(W).well(0, 4), 10);
        is("0", of("well every 4 awake 1 water 0;").well(0, 4), 0);
    }

    @Says("numbered from 0 on, 10 at most.")
    static void tenWells() {
        SnoringWells x = of(W.repeat(9) + "well every 5 awake 1;beside 0 9;house 1 from 9;");
        is("ten", x.count(1), 10);
        is("the last one's number", x.well(9, 0), 5);
        is("beside it", x.well(9, 8), 1);
        fails("an eleventh", NOSUCH, () -> x.well(10, 0));
        fault(W.repeat(10) + W, 4, 210);
    }

    @Says("beside: two unlike WELLS told ahead (told twice: as once).")
    static void besideBounds() {
        bounds(W + W + W + "beside 0 ", ";", 1, 2);
        fault(W + W + W + "beside 3 0;", 3, 70);
        fault(W + W + W + "beside 2 2;", 3, 72);
        fault(W + "beside 0 1;" + W, 3, 30);
        SnoringWells x = of(W + W + W + "beside 0 2;beside 2 0;beside 0 2;");
        is("told twice", x.count(6), 1);
        is("0", x.well(0, 8), 4);
        is("1", x.well(1, 8), 0);
        is("2", x.well(2, 8), 1);
        is("lines all the same", x.count(0), 6);
    }

    @Says("house: NEEDS 1 to 99, from WELLS told ahead (twice the same: nothing more); numbered from 0 on, 6 at most.")
    static void houseBounds() {
        bounds(W + "house ", " from 0;", 1, 99);
        bounds(W + W + W + "house 1 from ", ";", 0, 2);
        bounds(W + W + W + "house 1 from 0 ", ";", 0, 2);
        fault(W + "house 1 from 0 1;" + W, 3, 36);
        is("twice the same", of(W + W + "house 1 from 1 1;").house(0, 1), 2);
        SnoringWells x = of(W + "house 1 from 0;".repeat(5) + "house 9 from 0;");
        is("six", x.count(2), 6);
        is("the last one's number", x.house(5, 0), 9);
        fails("a seventh", NOSUCH, () -> x.house(6, 0));
        fault(W + "house 1 from 0;".repeat(7), 4, 111);
    }

    @Says("hour: the first one, 0 to 999 (0).")
    static void hourBounds() {
        bounds("hour ", ";", 0, 999);
        fault("hour 1000;", 1, 5);
        is("0", of("hour 0;").count(3), 0);
        is("999", of("hour 999;").count(3), 999);
        is("not told", of(W).count(3), 0);
    }

    @Says("Later ones of wakes, hour strike.")
    static void laterOnes() {
        is("hour", of("hour 999;hour 0;").count(3), 0);
        is("three hours", of("hour 1;hour 2;hour 3;").count(3), 3);
        is("a later law that wakes", holds("1=2;wakes 1=1"), true);
        is("a later law that doesn't", holds("1=1;wakes 1=2"), false);
        is("a shorter one", holds("1=1 and 1=1 and 1=1;wakes 1=2"), false);
        is("one law", of("wakes 1=1;wakes 1=2;").count(9), 1);
    }

    @Says("TOKENS, as long as they go")
    static void asLongAsTheyGo() {
        is("a word ends by a digit", read(new SnoringWells(), "hour12;"), 1);
        is("a number ends by a letter", read(new SnoringWells(), "well every4awake1shift2deep3water1;"), 1);
        is("signs need no blanks", holds("[not[(1+1)*2-3=1and 1<2]]or 2>1"), true);
        fault("hours 1;", 2, 0);
        fault("wellevery 4 awake 1;", 2, 0);
        fault("wakesn=1;", 2, 0);
        fault("wakes notn=1;", 2, 6);
        fault("hour 1 2;", 2, 7);
        fault("h our 1;", 2, 0);
    }

    @Says("between them blanks (10, 32)")
    static void blanks() {
        is("10", read(new SnoringWells(), "\nhour\n\n7\n;\n"), 1);
        is("32", read(new SnoringWells(), "  hour  7  ;  "), 1);
        is("each alone", read(new SnoringWells(), "hour 7\n;"), 1);
        for (int c : new int[] {0, 9, 11, 12, 13, 31, 33, 160}) fault("hour" + (char) c + "7;", 1, 4);
    }

    @Says("words (small letters), N (1 to 3 digits), the signs ; + - * ( ) [ ] = < >.")
    static void allBytes() {
        for (int c = 0; c < 256; c++) {
            boolean blank = c == 10 || c == 32;
            boolean begins = c >= 'a' && c <= 'z' || c >= '0' && c <= '9' || ";+-*()[]=<>".indexOf(c) >= 0;
            if (blank) is("blank " + c, read(new SnoringWells(), "" + (char) c), 0);
            else fault("" + (char) c, begins ? 2 : 1, 0);
            if (c == ';') is("its end", read(new SnoringWells(), "hour 1 ;"), 1);
            else fault("hour 1 " + (char) c, begins || blank ? 2 : 1, blank ? 8 : 7);
        }
        is("1 digit", of("hour 7;").count(3), 7);
        is("2 digits", of("hour 07;").count(3), 7);
        is("3 digits", of("hour 007;").count(3), 7);
        fault("hour 0007;", 1, 5);
    }

    @Says("FAULTS, the first along the text, of one TOKEN the least kind")
    static void firstFault() {
        fault("well every 1 awake 0;?", 3, 11);
        fault("well every 4 awake 5 ?", 3, 19);
        fault("well ? every 1", 1, 5);
        fault(W.repeat(10) + "well ?", 4, 210);
        fault("wakes not not not not not not not ?", 4, 30);
        fault("foo ?", 2, 0);
        fault("1000;", 1, 0);
        fault("hour 1 1000;", 1, 7);
        fault("well every 1000 awake 1;", 1, 11);
        fault("well 13;", 2, 5);
        fault("well every 4 awake 1 13;", 2, 21);
        fault(W.repeat(10) + "hour well;", 2, 215);
        fault(W + "house 1 from 0;".repeat(6) + "hour house;", 2, 116);
        fault("wakes (((((([1=1;", 2, 12);
        fault("wakes ((((((not 1=1;", 2, 12);
        fault("wakes [[[[[[1[1=1;", 2, 13);
        fault("wakes not not not not not not 1(1)=1;", 2, 31);
    }

    @Says("1 no TOKEN begins so (4 digits and more: at their first).")
    static void faultOne() {
        fault("?", 1, 0);
        fault("hour 1,", 1, 6);
        fault("hour 1234;", 1, 5);
        fault("hour 12345678901234567890;", 1, 5);
        fault("hour 0000;", 1, 5);
        fault("well every 4 awake 1 deep 1000;", 1, 26);
        fault("wakes 1=1 and 2=10000;", 1, 16);
        fault("hour 1; 2000", 1, 8);
    }

    @Says("2 it can't stand there (the end: the text's length).")
    static void faultTwo() {
        String text = "well every 4 awake 1 shift 1 deep 5 water 3";
        for (int k = 1; k <= text.length(); k++) {
            if (k == text.length() || text.charAt(k) == ' ') {
                fault(text.substring(0, k), 2, k);
                fault(text.substring(0, k) + "   ", 2, k + 3);
                fault(text.substring(0, k) + "]", 2, k);
            }
        }
        fault(W + W + "beside 0", 2, 50);
        fault(W + "house 1 from 0", 2, 35);
        fault("hour", 2, 4);
        fault("wakes", 2, 5);
        fault("wakes 1=1 or\n", 2, 13);
        SnoringWells x = new SnoringWells();
        feed(x, "hour 12;");
        is("the first bytes are the text", x.hills(7), -12);
        is("its length is their number", x.fault(1), 7);
    }

    @Says("3 N is out of its bounds (a WELL that isn't told; beside: the first one again).")
    static void faultThree() {
        fault("beside 0 0;", 3, 7);
        fault("house 1 from 0;", 3, 13);
        fault("house 0 from 0;", 3, 6);
        fault(W + "beside 0 0;", 3, 30);
        fault(W + "beside 1 0;", 3, 28);
        fault(W.repeat(10) + "beside 9 10;", 3, 219);
        fault(W.repeat(10) + "house 1 from 999;", 3, 223);
    }

    @Says("4 the first TOKEN of an 11th well, a 7th house; a seventh of not [ (.")
    static void faultFour() {
        fault(W.repeat(10) + "well", 4, 210);
        fault(W.repeat(10) + "hour 1; well every 1", 4, 218);
        fault(W + "house 1 from 0;".repeat(6) + "house", 4, 111);
        fault(W + "house 1 from 0;".repeat(6) + "\nhouse 0", 4, 112);
        fault("wakes [[[[[[not", 4, 12);
        fault("wakes [[[[[[[", 4, 12);
        fault("wakes [[[[[[(", 4, 12);
        is("ten and six", read(new SnoringWells(), W.repeat(10) + "house 1 from 9;".repeat(6)), 16);
    }

    // ---- ==== 2: noises, deeds, hours

    @Says("PHASE of a WELL: HOUR and its shift, modulo its ROUND.")
    static void phases() {
        SnoringWells x = of("well every 12 awake 1 shift 11;hour 0;");
        is("ahead of the turn", x.well(0, 5), 11);
        x.hours(1);
        is("the turn", x.well(0, 5), 0);
        x.hours(11);
        is("once more ahead of it", x.well(0, 5), 11);
        is("in hour 999", of("well every 12 awake 1 shift 11;hour 999;").well(0, 5), 2);
        is("of a round of 2", of("well every 2 awake 1 shift 1;hour 999;").well(0, 5), 0);
        x.hours(99);
        is("beyond", x.well(0, 5), (12 + 99 + 11) % 12);
    }

    @Says("It is AWAKE, as long as PHASE is below what it is awake; else ASLEEP.")
    static void awakeByPhase() {
        for (int up = 1; up <= 5; up++) {
            SnoringWells x = of("well every 5 awake " + up + ";");
            for (int h = 0; h < 11; h++) {
                is("awake " + up + " in hour " + h, x.well(0, 6), h % 5 < up ? 1 : 0);
                x.hours(1);
            }
        }
    }

    @Says("To WAKE it: its shift becomes such that PHASE is 0")
    static void wakeTurnsTheRound() {
        int[] due = {0, 4, 3, 2, 1, 0, 4};
        for (int h = 0; h < due.length; h++) {
            SnoringWells x = of("well every 5 awake 2 shift " + Math.floorMod(4 - h, 5) + ";hour " + h + ";");
            is("asleep in hour " + h, x.well(0, 5), 4);
            x.coin(0);
            is("phase in hour " + h, x.well(0, 5), 0);
            is("shift in hour " + h, x.well(0, 2), due[h]);
        }
    }

    @Says("to LULL it: such that PHASE is what it is awake (not one that never sleeps).")
    static void lullTurnsTheRound() {
        int[] due = {3, 2, 1, 0, 4, 3, 2};
        for (int h = 0; h < due.length; h++) {
            SnoringWells x = of("well every 5 awake 3 shift " + Math.floorMod(-h, 5) + ";hour " + h + ";");
            is("shift in hour " + h, x.lull(0), due[h]);
            is("phase in hour " + h, x.well(0, 5), 3);
        }
        SnoringWells last = of("well every 5 awake 4;");
        last.lull(0);
        is("the last phase", last.well(0, 5), 4);
        last.hours(1);
        is("awake behind it", last.well(0, 5), 0);
        is("never sleeps", of("well every 5 awake 5;").lull(0), -13);
    }

    @Says("each WELL b beside it, ASLEEP and not yet woken by it, for which the law holds, is woken")
    static void whoIsWoken() {
        is("beside, asleep, the law holds", of(star(1)).chain(0, 1), 2);
        is("not beside", of(star(1).replace("beside 0 1;", "")).chain(0, 1), 0);
        is("awake", of(star(1).replace(" shift 2", "")).chain(0, 1), 0);
        is("the law doesn't hold", of(star(1)).chain(0, 0), 0);
        is("in a ring each once", of(RING).draw(0, 1), 4);
    }

    @Says("it yawns then: a NOISE of 0 at it, and so on")
    static void yawnsGoOn() {
        is("to the last of ten", of(line("1=1")).chain(0, 5), 1022);
        is("a yawn is no noise of n", of(line("n>0")).chain(0, 5), 2);
        is("the noise is none of 0", of(line("n=0")).chain(0, 5), 0);
        is("noise and yawns", of(line("n=0")).chain(0, 0), 1022);
        is("an awake one passes nothing on", of(line("1=1").replaceFirst("shift 2;well every 4 awake 2 shift 2;", "shift 2;well every 4 awake 2;")).chain(0, 5), 2);
    }

    @Says("(a itself is woken by none of these)")
    static void notItself() {
        SnoringWells x = of("well every 4 awake 2 shift 2;well every 4 awake 2 shift 2;beside 0 1;wakes 1=1;");
        is("asleep, and beside one that yawns", x.chain(0, 1), 2);
        is("the other way", x.chain(1, 1), 1);
        is("coin", x.coin(0), 1);
        is("ring", of(RING).chain(4, 1), 14);
    }

    @Says("all by how things were ahead of the DEED")
    static void asItWasAhead() {
        SnoringWells x = of(star(1).replace("n>0", "wa=10"));
        is("WATER ahead of the draw", x.draw(0, 10), 1);
        is("then it has less", x.well(0, 4), 0);
        SnoringWells y = of(star(1).replace("n>0", "wa=9"));
        is("not behind it", y.draw(0, 1), 0);
        SnoringWells z = of("well every 4 awake 2 shift 2;well every 4 awake 2 shift 3;well every 4 awake 2 shift 2;beside 0 1;beside 1 2;wakes phase>1;");
        is("phases ahead of the coin", z.coin(0), 2);
    }

    @Says("In the law: da, db: how DEEP, wa, wb: WATER")
    static void lawsOfDeepAndWater() {
        String wells = "well every 2 awake 2 deep 99 water 0;well every 12 awake 1 shift 1 deep 1 water 1;well every 12 awake 1 shift 1 deep 98 water 97;beside 0 1;beside 1 2;wakes ";
        is("da 99", of(wells + "da=99;").chain(0, 1), 2);
        is("db 1", of(wells + "db=1;").chain(0, 1), 2);
        is("wa 0", of(wells + "wa=0;").chain(0, 1), 2);
        is("wb 1", of(wells + "wb=1;").chain(0, 1), 2);
        is("of the one that yawns, then", of(wells + "da=99 or da=1 and wa=1;").chain(0, 1), 6);
        is("of the one beside it, then", of(wells + "db=1 or db=98 and wb=97;").chain(0, 1), 6);
    }

    @Says("phase: that of b")
    static void phaseOfTheSleeper() {
        for (int phase = 1; phase < 12; phase++) {
            String two = "well every 12 awake 12 shift 5;well every 12 awake 1 shift " + phase + ";beside 0 1;wakes phase=";
            is("phase " + phase, of(two + phase + ";").chain(0, 0), 2);
            is("not one less than " + phase, of(two + (phase - 1) + ";").chain(0, 0), 0);
            is("not one more than " + phase, of(two + (phase + 1) + ";").chain(0, 0), 0);
        }
        is("by the hour", of("well every 12 awake 12;well every 12 awake 1 shift 11;beside 0 1;wakes phase=2;hour 999;").chain(0, 0), 2);
    }

    @Says("hour: HOUR modulo 24")
    static void hourOfTheDay() {
        int[] hours = {0, 23, 24, 25, 47, 48, 999};
        int[] due = {0, 23, 0, 1, 23, 0, 15};
        for (int i = 0; i < hours.length; i++) {
            SnoringWells x = of("well every 12 awake 12;well every 12 awake 1 shift 3;well every 12 awake 1 shift 9;beside 0 1;beside 0 2;wakes hour=" + due[i] + ";hour " + hours[i] + ";");
            is("hour " + hours[i], x.chain(0, 0) != 0, true);
        }
    }

    @Says("many: how many are beside a")
    static void manyBesideIt() {
        is("the first of a line has one", of(line("many=1")).chain(0, 5), 2);
        is("those in it two", of(line("many=2")).chain(1, 5), 1020);
        is("each yawner's own", of(line("many=2")).chain(0, 5), 0);
        is("nine", of(star(9).replace("n>0", "many=9")).chain(0, 1), 1022);
        is("awake ones too", of(star(2).replaceFirst(" shift 2", "").replace("n>0", "many=2")).chain(0, 1), 4);
    }

    @Says("each + - * kept from -1,000,000 to 1,000,000")
    static void keptWithinAMillion() {
        String million = "100*100*100";
        is("one below", holds("999*999+999*2=" + million + "-1"), true);
        is("one below is less", holds("999*999+999*2<" + million), true);
        is("just so many", holds("999*999+999*2+1=" + million), true);
        is("+ one above", holds(million + "+1=" + million), true);
        is("+ kept at once", holds(million + "+1-1=" + million + "-1"), true);
        is("- one above the least", holds("0-" + million + "+1>0-" + million), true);
        is("- one below the least", holds("0-" + million + "-1=0-" + million), true);
        is("- kept at once", holds("0-" + million + "-1+1=1-" + million), true);
        is("* above", holds(million + "*2=" + million), true);
        is("* kept at once", holds("(" + million + "*2-1)*1=" + million + "-1"), true);
        is("* below", holds("(0-100)*100*101=0-" + million), true);
        is("* far above", holds(million + "*(" + million + ")=" + million), true);
        is("* far below", holds("(0-" + million + ")*(" + million + ")=0-" + million), true);
        is("* both below", holds("(0-" + million + ")*(0-" + million + ")=" + million), true);
        is("* by 0", holds(million + "*0=0"), true);
        is("+ far below", holds("(0-" + million + ")+(0-" + million + ")=0-" + million), true);
        is("- far above", holds(million + "-(0-" + million + ")=" + million), true);
    }

    @Says("(without a law none is woken)")
    static void withoutALaw() {
        SnoringWells x = of(star(9).replace("wakes n>0;", ""));
        is("by noise", x.chain(0, 99), 0);
        is("by noise of 0", x.chain(0, 0), 0);
        is("by a draw", x.draw(0, 1), 0);
        is("by a coin: itself alone", x.coin(1), 0);
        is("awake", x.awake(), 3);
        is("by thunder all the same", x.thunder(), 8);
    }

    @Says("If two or more are woken at once, these are SOUR.")
    static void sourByTwo() {
        for (int around : new int[] {1, 2, 3, 9}) {
            SnoringWells x = of(star(around));
            is("woken " + around, x.draw(0, 1), around);
            is("sour of " + around, x.count(5), around < 2 ? 0 : around);
            is("the one drawn from", x.well(0, 7), 0);
        }
        SnoringWells y = of(star(3).replaceFirst(" shift 2", ""));
        is("two of three", y.draw(0, 1), 2);
        is("these alone", y.well(1, 7) * 100 + y.well(2, 7) * 10 + y.well(3, 7), 11);
        SnoringWells z = of(line("1=1"));
        is("by yawns too", z.draw(0, 1), 9);
        is("all of them", z.count(5), 9);
        SnoringWells one = of(line("n>0"));
        one.draw(0, 1);
        is("one by one deed", one.count(5), 0);
    }

    @Says("To DRAW n from an AWAKE WELL that isn't SOUR, and has so much: a NOISE of n; then it has n less.")
    static void drawBounds() {
        SnoringWells x = of("well every 4 awake 2 deep 99 water 50;well every 4 awake 2 shift 2;");
        is("one more than it has", x.draw(0, 51), -4);
        is("as much as it has", x.draw(0, 50), 0);
        is("none left", x.well(0, 4), 0);
        is("one of none", x.draw(0, 1), -4);
        is("asleep", x.draw(1, 1), -2);
        SnoringWells y = of(star(2));
        y.draw(0, 1);
        is("sour", y.draw(1, 1), -3);
        is("a noise of n", of(star(1).replace("n>0", "n=7")).draw(0, 7), 1);
        is("no noise of another n", of(star(1).replace("n>0", "n=7")).draw(0, 6), 0);
    }

    @Says("To LULL an AWAKE one.")
    static void lullBounds() {
        for (int h = 0; h < 5; h++) {
            SnoringWells x = of("well every 5 awake 3;hour " + h + ";");
            is("in hour " + h, x.lull(0), h < 3 ? 3 - h : -12);
            is("asleep behind it, hour " + h, x.well(0, 6), 0);
            is("a deed, hour " + h, x.count(7), h < 3 ? 1 : 0);
        }
        SnoringWells sour = of(star(2));
        sour.thunder();
        is("a sour one too", sour.lull(2), 2);
        is("which stays sour", sour.well(2, 7), 1);
    }

    @Says("A COIN in an ASLEEP one: it is woken, a NOISE of 0 at it (it itself doesn't count to two).")
    static void coinBounds() {
        String sleepers = "well every 4 awake 2 shift 2;".repeat(3);
        SnoringWells none = of(sleepers + "beside 0 1;wakes n>0;");
        is("a noise of 0", none.coin(0), 0);
        is("it is woken", none.awake(), 1);
        is("its phase", none.well(0, 5), 0);
        SnoringWells one = of(sleepers + "beside 0 1;wakes n=0;");
        is("one other", one.coin(0), 1);
        is("with it two, none sour", one.count(5), 0);
        SnoringWells two = of(sleepers + "beside 0 1;beside 0 2;wakes n=0;");
        is("two others", two.coin(0), 2);
        is("sour, but not itself", two.well(0, 7) * 100 + two.well(1, 7) * 10 + two.well(2, 7), 11);
    }

    @Says("THUNDER: all that are ASLEEP are woken (SOUR, if two or more).")
    static void thunderBounds() {
        for (int many = 0; many <= 9; many++) {
            SnoringWells x = of(star(many));
            is("woken of " + many, x.thunder(), many);
            is("awake of " + many, x.count(4), many + 1);
            is("sour of " + many, x.count(5), many < 2 ? 0 : many);
            is("again", x.thunder(), 0);
            is("sour still", x.count(5), many < 2 ? 0 : many);
        }
    }

    @Says("An HOUR: all WELLS ASLEEP now have 1 more WATER (as DEEP at most)")
    static void sleepersFill() {
        SnoringWells x = of(asleep(10, 8) + "well every 9 awake 9 water 3;well every 2 awake 1 water 3;well every 2 awake 1 shift 1 water 3;");
        x.hours(1);
        is("one more", x.well(0, 4), 9);
        is("awake", x.well(1, 4), 3);
        is("awake now, asleep then", x.well(2, 4), 3);
        is("asleep now, awake then", x.well(3, 4), 4);
        x.hours(1);
        is("as deep", x.well(0, 4), 10);
        x.hours(1);
        is("no more", x.well(0, 4), 10);
    }

    @Says("both ASLEEP, of which one has 2 or more above the other one, 1 goes from that to the other one (if that one is DEEP enough)")
    static void dreamsBounds() {
        for (int above = 0; above <= 4; above++) {
            SnoringWells x = of(asleep(50, 20) + asleep(50, 20 + above) + "beside 0 1;");
            x.hours(1);
            is(above + " above, the lower", x.well(0, 4), above < 2 ? 21 : 22);
            is(above + " above, the upper", x.well(1, 4), above < 2 ? 21 + above : 20 + above);
            SnoringWells y = of(asleep(50, 20 + above) + asleep(50, 20) + "beside 0 1;");
            y.hours(1);
            is(above + " above, the other way", y.well(0, 4), above < 2 ? 21 + above : 20 + above);
        }
        SnoringWells full = of(asleep(5, 5) + asleep(50, 20) + "beside 0 1;");
        full.hours(1);
        is("full", full.well(0, 4) * 100 + full.well(1, 4), 521);
        SnoringWells filled = of(asleep(5, 4) + asleep(50, 20) + "beside 0 1;");
        filled.hours(1);
        is("full by that hour", filled.well(0, 4) * 100 + filled.well(1, 4), 521);
        SnoringWells room = of(asleep(5, 3) + asleep(50, 20) + "beside 0 1;");
        room.hours(1);
        is("room for one", room.well(0, 4) * 100 + room.well(1, 4), 520);
        SnoringWells awake = of(asleep(50, 20) + "well every 9 awake 9 deep 50 water 40;beside 0 1;");
        awake.hours(1);
        is("one awake", awake.well(0, 4) * 100 + awake.well(1, 4), 2140);
        SnoringWells apart = of(asleep(50, 20) + asleep(50, 40));
        apart.hours(1);
        is("not beside", apart.well(0, 4) * 100 + apart.well(1, 4), 2141);
        SnoringWells soon = of(asleep(50, 20) + "well every 9 awake 8 shift 7 deep 50 water 40;beside 0 1;");
        soon.hours(1);
        is("awake now, asleep then", soon.well(0, 4) * 100 + soon.well(1, 4), 2140);
        soon.hours(1);
        is("asleep now, awake then", soon.well(0, 4) * 100 + soon.well(1, 4), 2340);
    }

    @Says("for each two beside one another (by the lesser, then the other number)")
    static void dreamsInOrder() {
        SnoringWells a = of(asleep(50, 20) + asleep(50, 22) + asleep(50, 23) + "beside 1 2;beside 0 2;beside 0 1;");
        a.hours(1); // 21 23 24: 0-1 gives 22 22 24, 0-2 gives 23 22 23, 1-2 none
        is("0", a.well(0, 4), 23);
        is("1", a.well(1, 4), 22);
        is("2", a.well(2, 4), 23);
        SnoringWells b = of(asleep(50, 20) + asleep(50, 21) + asleep(50, 22) + asleep(50, 24) + "beside 2 3;beside 1 3;beside 0 3;");
        b.hours(1); // 21 22 23 25: 0-3 gives 22 22 23 24, 1-3 gives 22 23 23 23, 2-3 none
        is("by the lesser", b.well(0, 4) * 1000000 + b.well(1, 4) * 10000 + b.well(2, 4) * 100 + b.well(3, 4), 22232323);
    }

    @Says("HOUR is 1 more; who is ASLEEP then is SOUR no more.")
    static void sourNoMore() {
        SnoringWells x = of("well every 3 awake 2 shift 2;".repeat(2));
        x.thunder();
        is("both", x.count(5), 2);
        x.lull(0);
        is("asleep, the hour isn't over", x.well(0, 7), 1);
        x.hours(1);
        is("hour", x.count(3), 1);
        is("asleep till now, awake then", x.well(0, 7), 1);
        is("awake all the time", x.well(1, 7), 1);
        x.hours(1);
        is("asleep then", x.well(1, 7), 0);
        is("awake still", x.well(0, 7), 1);
        x.hours(1);
        is("asleep then, too", x.well(0, 7), 0);
        SnoringWells never = of(star(2));
        never.thunder();
        never.hours(2);
        is("asleep by their rounds", never.count(5), 0);
    }

    @Says("DEEDS: a DRAW, a LULL, a COIN, THUNDER, HOURS of one call; each can be UNDONE, the latest first, 10 at most (eldest are forgotten).")
    static void deedsUndone() {
        SnoringWells x = of(RING);
        String[] was = new String[5];
        was[0] = state(x);
        x.draw(0, 3);
        was[1] = state(x);
        x.lull(0);
        was[2] = state(x);
        x.coin(0);
        was[3] = state(x);
        x.hours(99);
        was[4] = state(x);
        x.thunder();
        is("deeds", x.count(7), 5);
        for (int i = 4; i >= 0; i--) {
            is("left", x.undo(1), i);
            is("ahead of deed " + i, state(x), was[i]);
        }
        for (int i = 0; i < 11; i++) x.hours(1);
        is("10 at most", x.count(7), 10);
        is("all of them", x.undo(10), 0);
        is("the eldest is forgotten", x.count(3), 1);
        fails("no more", ARGUMENT, () -> x.undo(1));
        for (int i = 0; i < 35; i++) x.hours(1);
        is("three times around", x.undo(10), 0);
        is("hour", x.count(3), 26);
    }

    @Says("0 to 999: n is v modulo 100 (1 to 99) from WELL v by 100")
    static void toldDraws() {
        SnoringWells x = of("well every 4 awake 2 deep 99;".repeat(10));
        for (int w = 0; w < 10; w++) {
            told(x, w * 100, 1);
            told(x, w * 100 + 1, 0);
            told(x, w * 100 + 99, 0);
        }
        told(x, 1000, 1);
        told(x, 1001, 1);
        row(x, 0, 1, 907);
        x.perform(0);
        is("7 from 9", x.well(9, 4), 92);
        row(x, 0, 1, 99, 100 + 99, 800 + 1, 999 - 7);
        is("edges", x.perform(0), 4);
        is("99 from 0", x.well(0, 4), 0);
        is("99 from 1", x.well(1, 4), 0);
        is("1 from 8", x.well(8, 4), 98);
        is("92 from 9", x.well(9, 4), 0);
        SnoringWells last = of("well every 4 awake 2 deep 99;".repeat(10));
        row(last, 0, 1, 999);
        is("999 is one", last.perform(0), 1);
        is("99 from 9", last.well(9, 4), 0);
        SnoringWells nine = of("well every 4 awake 2 deep 99;".repeat(9));
        told(nine, 899, 0);
        told(nine, 901, 1);
    }

    @Says("2000 and a WELL: a LULL; 2100 and a WELL: a COIN; 3000: THUNDER; NONE: an HOUR.")
    static void toldOthers() {
        SnoringWells up = of("well every 4 awake 2;".repeat(10));
        SnoringWells down = of("well every 4 awake 2 shift 2;".repeat(10));
        for (int w = 0; w < 10; w++) {
            told(up, 2000 + w, 0);
            told(down, 2100 + w, 0);
        }
        for (long v : new long[] {1999, 2010, 2099, 2110, 2199, 2200, 2999, 3001, -2, -1000, Long.MIN_VALUE, Long.MAX_VALUE, (1L << 32) - 1, (1L << 32) + 1, (1L << 32) + 3000}) {
            told(up, v, 1);
            told(down, v, 1);
        }
        told(up, 3000, 0);
        told(up, -1, 0);
        row(down, 0, 1, 2100 + 9, 2000 + 9, -1, 3000);
        is("all four", down.perform(0), 4);
        is("hour", down.count(3), 1);
        is("awake", down.awake(), 1023);
        SnoringWells nine = of("well every 4 awake 2;".repeat(9));
        told(nine, 2009, 1);
        told(nine, 2109, 1);
        SnoringWells none = new SnoringWells();
        told(none, 2000, 1);
        told(none, 2100, 1);
        told(none, 3000, 0);
        told(none, -1, 0);
    }

    @Says("They can't be: 1 no such WELL, number; 2 it is ASLEEP (to DRAW, to LULL), AWAKE (a COIN); 3 it is SOUR, never sleeps (to LULL); 4 it has not so much.")
    static void reasonsInOrder() {
        SnoringWells x = of("well every 4 awake 2;".repeat(2) + "well every 4 awake 2 shift 2;".repeat(2) + "well every 4 awake 4;");
        is("no such well, no such number", x.draw(5, 100), -1);
        is("no such number, asleep", x.draw(2, 0), -1);
        is("asleep, not so much", x.draw(2, 11), -2);
        is("not so much", x.draw(0, 11), -4);
        is("to lull: asleep", x.lull(2), -12);
        is("to lull: never sleeps", x.lull(4), -13);
        is("a coin: awake", x.coin(0), -2);
        is("a coin: never sleeps", x.coin(4), -2);
        x.thunder();
        is("sour, not so much", x.draw(2, 11), -3);
        is("sour", x.draw(2, 1), -3);
        is("no such number, sour", x.draw(2, 100), -1);
        x.lull(2);
        is("asleep, sour", x.draw(2, 1), -2);
        is("asleep, sour, not so much", x.draw(2, 99), -2);
    }

    // ---- ==== 3: rounds, plans, trays, images

    @Says("JOINT ROUND: the least number of HOURS behind which all ROUNDS are as now.")
    static void jointRounds() {
        is("the least", of("well every 2 awake 1;").joint(), 2);
        is("twice the same", of("well every 12 awake 1;well every 12 awake 7 shift 3;").joint(), 12);
        is("one within the other", of("well every 6 awake 1;well every 12 awake 7 shift 3;").joint(), 12);
        is("8, 9, 10", of("well every 8 awake 1;well every 9 awake 1;well every 10 awake 1;").joint(), 360);
        is("all", of(ALL_ROUNDS).joint(), 27720);
        is("those that never sleep too", of("well every 11 awake 11;well every 7 awake 7;").joint(), 77);
    }

    @Says("TOGETHER: the fewest HOURS from now (within the JOINT ROUND) behind which all of a set are AWAKE; ASLEEP.")
    static void togetherBounds() {
        is("now", of(ALL_ROUNDS).together(1023, true), 0);
        is("the last hour of it", of(ALL_ROUNDS + "hour 1;").together(1023, true), 27719);
        is("all asleep, next", of(ALL_ROUNDS).together(1023, false), 1);
        SnoringWells x = of("well every 2 awake 1;well every 2 awake 1 shift 1;well every 3 awake 3;");
        is("never awake", x.together(3, true), -1);
        is("never asleep", x.together(3, false), -1);
        is("one never sleeps", x.together(4, false), -1);
        is("in the last hour", of("well every 12 awake 1 shift 1;").together(1, true), 11);
    }

    @Says("LEAST NOISE for a WELL: the least n (0 to 99) by which a NOISE of n at some other WELL (AWAKE now) wakes it, of like ones the first such WELL.")
    static void leastNoiseBounds() {
        String three = "well every 2 awake 1;well every 2 awake 1;well every 2 awake 1 shift 1;beside 0 2;beside 1 2;wakes ";
        int[] due = {0, 1, 98, 99};
        for (int n : due) is("n " + n, of(three + "n=" + n + ";").leastNoise(2, 0), n);
        is("above 99", of(three + "n=100;").leastNoise(2, 0), -1);
        is("the least of many", of(three + "n>49;").leastNoise(2, 0), 50);
        is("the first of like ones", of(three + "n>49;").leastNoise(2, 1), 0);
        SnoringWells asleep = of(three.replaceFirst("awake 1", "awake 1 shift 1") + "n>49;");
        is("an awake one", asleep.leastNoise(2, 1), 1);
        asleep.lull(1);
        is("none is awake", asleep.leastNoise(2, 0), -1);
        is("which then", asleep.leastNoise(2, 1), -1);
    }

    @Says("QUIET is a DRAW by which none is woken.")
    static void quietBounds() {
        is("none woken", of(star(1).replace("n>0", "n>1")).quietest(0), 1);
        is("one woken", of(star(1)).quietest(0), 0);
    }

    @Says("QUIET HOURS of a HOUSE: HOURS from now (0 to 40, nothing else being done) in which a DRAW of what it NEEDS from one of its WELLS could be and were QUIET; by the first such WELL.")
    static void quietHoursBounds() {
        is("0 to 40", of("well every 2 awake 2;house 1 from 0;").quietHours(0), (1L << 41) - 1);
        is("hours 0 and 40 among them", of("well every 8 awake 1;house 1 from 0;").quietHours(0), 1L | 1L << 8 | 1L << 16 | 1L << 24 | 1L << 32 | 1L << 40);
        is("41 is none", of("well every 7 awake 1 shift 1;house 1 from 0;").quietHours(0) >> 35, 0);
        is("just what it needs", of("well every 2 awake 2 water 5;house 5 from 0;").quietHours(0), (1L << 41) - 1);
        is("one too little", of("well every 2 awake 2 water 5;house 6 from 0;").quietHours(0), 0);
        SnoringWells x = of("well every 2 awake 2 water 0;well every 2 awake 2;well every 2 awake 2;house 1 from 2 1 0;");
        is("the first such", x.quietWell(0, 0), 1);
        SnoringWells from = of("well every 2 awake 2;well every 2 awake 1;house 1 from 1;");
        is("its own wells alone", from.quietHours(0), 0x15555555555L);
    }

    @Says("A PLAN: unlike HOURS for all HOUSES, QUIET ones of each, so that the last of all is soonest; of like ones the first by HOUSES' HOURS.")
    static void planBounds() {
        SnoringWells two = of("well every 2 awake 2;house 1 from 0;house 1 from 0;");
        is("unlike hours", two.plan(0) * 100 + two.plan(10) * 10 + two.plan(11), 101);
        // house 0 could draw now, but then house 1 had to wait for hour 4
        SnoringWells soonest = of("well every 2 awake 2;well every 4 awake 1;house 1 from 0;house 1 from 1;");
        is("the last is soonest", soonest.plan(0) * 100 + soonest.plan(10) * 10 + soonest.plan(11), 110);
        // the last is in hour 2 whatever house 0 does: it draws now, house 1 in hour 1
        SnoringWells first = of("well every 3 awake 3;well every 3 awake 1 shift 1;house 1 from 0;house 1 from 0;house 1 from 1;");
        is("the first by houses' hours", first.plan(0) * 1000 + first.plan(10) * 100 + first.plan(11) * 10 + first.plan(12), 2012);
        is("in hour 40", of("well every 8 awake 1;" + "house 1 from 0;".repeat(6)).plan(0), 40);
        is("none beyond", of("well every 9 awake 1;" + "house 1 from 0;".repeat(6)).plan(0), -2);
        is("one dry house is enough", of("well every 2 awake 2;house 1 from 0;house 11 from 0;").plan(10), -2);
    }

    @Says("SHIELD of a WELL from a NOISE: the fewest others of those it wakes that, were they AWAKE already (such aren't woken, and pass nothing on), leave that WELL asleep, of like ones the least set as bits.")
    static void shieldBounds() {
        SnoringWells x = of(line("1=1"));
        for (int b = 2; b <= 9; b++) {
            is("one is enough for " + b, x.shield(0, 1, b, 0), 1);
            is("the least set for " + b, x.shield(0, 1, b, 1), 2);
        }
        is("woken at once", x.shield(0, 1, 1, 0), -1);
        // 1 to 4 are beside 0 and 5: all four are needed; 1 and 2 alone are not
        SnoringWells wide = of("well every 4 awake 2;" + "well every 4 awake 2 shift 2;".repeat(5)
            + "beside 0 1;beside 0 2;beside 0 3;beside 0 4;beside 5 1;beside 5 2;beside 5 3;beside 5 4;wakes 1=1;");
        is("four", wide.shield(0, 1, 5, 0), 4);
        is("which four", wide.shield(0, 1, 5, 1), 30);
        // 0 wakes 1 and 2, each of these 5, that one 4: 5 alone is enough
        SnoringWells fewest = of("well every 4 awake 2;" + "well every 4 awake 2 shift 2;".repeat(5)
            + "beside 0 1;beside 0 2;beside 1 5;beside 2 5;beside 5 4;wakes 1=1;");
        is("fewest", fewest.shield(0, 1, 4, 0), 1);
        is("which one, though 1 and 2 are the lesser set", fewest.shield(0, 1, 4, 1), 32);
    }

    @Says("SEEN in a TRAY (1 to 24 numbers by HOURS from 0 on: 1 AWAKE, 0 ASLEEP, NONE not heard)")
    static void seenBounds() {
        SnoringWells x = new SnoringWells();
        for (int many : new int[] {1, 24}) {
            x.tray(0, 3, many);
            is("many " + many, x.seen(0), many == 1 ? 286 : 0);
        }
        for (int many : new int[] {0, 25, 30}) {
            x.tray(0, 3, many);
            fails("many " + many, ARGUMENT, () -> x.seen(0));
        }
        for (long v : new long[] {-1, 0, 1}) {
            row(x, 1, 3, -1, v);
            is("number " + v, x.seen(1), v < 0 ? 649 : v == 0 ? 286 : 363);
        }
        for (long v : new long[] {-2, 2, Long.MIN_VALUE, Long.MAX_VALUE, 1L << 32, (1L << 32) + 1, (1L << 32) - 1, 0x100}) {
            row(x, 1, 3, 0, v);
            fails("number " + v, ARGUMENT, () -> x.seen(1));
        }
        long[] last = new long[24];
        Arrays.fill(last, -1);
        last[23] = 7;
        row(x, 1, 3, last);
        fails("the last number too", ARGUMENT, () -> x.seen(1));
        last[23] = 1;
        row(x, 1, 3, last);
        is("the last hour counts", x.seen(1), 363);
    }

    @Says("ROUNDS (ROUND 2 to 12, awake 1 to all of it, shift 0 to ROUND less 1) of a WELL that would have been so.")
    static void roundsSeen() {
        SnoringWells x = new SnoringWells();
        row(x, 0, 0, -1);
        int k = 0;
        for (int round = 2; round <= 12; round++) {
            for (int up = 1; up <= round; up++) {
                for (int shift = 0; shift < round; shift++) is("round " + k, x.roundAt(0, k++), 10000 * round + 100 * up + shift);
            }
        }
        is("all", x.seen(0), k);
        is("no more", x.roundAt(0, k), -1);
        row(x, 1, 0, 1, 0, 0, 0, 0, 0, 0, 0, 0, 0, 0, 0, 1);
        is("a round of 12", x.roundAt(1, 0), 120100);
        row(x, 1, 0, 1, 0, 0, 0, 0, 0, 0, 0, 0, 0, 0, 0, 0, 1);
        is("none of 13", x.seen(1), 0);
        row(x, 1, 0, 0, 1, 1, 1, 1, 1, 1, 1, 1, 1, 1, 1, 0, 1);
        is("awake for 11 of 12", x.roundAt(1, 0), 121111);
        row(x, 1, 0, 1, 1, 1, 1, 1, 1, 1, 1, 1, 1, 1, 1, 1, 1, 1, 1, 1, 1, 1, 1, 1, 1, 1, 1);
        is("awake for ever: each round by all its shifts", x.seen(1), 2 + 3 + 4 + 5 + 6 + 7 + 8 + 9 + 10 + 11 + 12);
    }

    @Says("TELLS MOST: the HOUR from the TRAY's end on (24 at most: to the 23rd behind it) in which those that fit are most evenly AWAKE and ASLEEP (the lesser number is greatest), the first.")
    static void tellsMostBounds() {
        SnoringWells x = new SnoringWells();
        // 46 rounds fit; the lesser number is 23 in hour 28, ahead of that 22 at most, first in hour 16
        row(x, 0, 0, 0, -1, 0, 1, -1);
        is("hour 28 is the 23rd behind hour 5", x.listen(0), 24);
        row(x, 0, 0, 0, -1, 0, 1);
        is("hour 28 is too far behind hour 4", x.listen(0), 13);
        row(x, 0, 0, 0, 0, -1, -1, -1);
        is("hour 4 would tell more, but has been", x.listen(0), 1);
        row(x, 0, 0, -1);
        is("all alike: the first", x.listen(0), 1);
        row(x, 0, 0, 1, 0, 0, 0, 0, 0, 0, 0, 0, 0, 0, 0, 1);
        is("one alone, nothing to tell: the first", x.listen(0), 1);
    }

    /** A year by calls, one by one, for an object with wells. */
    static int yearByHand(SnoringWells x, int seed, int times) {
        int[] at = {seed};
        int done = 0;
        for (int i = 0; i < times; i++) {
            int kind = number(at) % 6;
            int answer;
            if (kind < 2) {
                answer = Math.abs(x.hours(1));
            } else {
                int w = number(at) % x.count(1);
                answer = kind < 4 ? x.draw(w, 1 + number(at) % 5) : kind == 4 ? x.lull(w) : x.coin(w);
            }
            if (answer >= 0) done++;
        }
        return done;
    }

    static int number(int[] at) {
        at[0] = 1103515245 * at[0] + 12345;
        return at[0] >>> 16;
    }

    @Says("A YEAR by a SEED (x, an int; a DRAW of numbers: x becomes 1103515245 x + 12345, it is x >>> 16): so many times (1 to 30)")
    static void yearByHandAndByCall() {
        for (String text : new String[] {VALLEY, RING, star(9), "well every 3 awake 2;"}) {
            for (int seed : new int[] {0, 1, -1, 42, Integer.MIN_VALUE, Integer.MAX_VALUE, 1103515245}) {
                for (int times : new int[] {1, 2, 29, 30}) {
                    SnoringWells a = of(text);
                    SnoringWells b = of(text);
                    is("seed " + seed + ", times " + times, a.year(seed, times), yearByHand(b, seed, times));
                    is("hills then, seed " + seed + ", times " + times, past(a), past(b));
                }
            }
        }
    }

    @Says("number modulo 6: 0, 1 an HOUR; 2, 3 from WELL number modulo WELLS 1 and number modulo 5 is drawn; 4 WELL number modulo WELLS is LULLED; 5 a COIN in WELL number modulo WELLS")
    static void yearKinds() {
        boolean[] drawn = new boolean[50];
        for (int seed = 0; seed < 3000; seed++) {
            int[] at = {seed};
            int kind = number(at) % 6;
            int w = number(at) % 10;
            int n = 1 + number(at) % 5;
            SnoringWells x = of((kind == 5 ? "well every 4 awake 2 shift 2;" : "well every 4 awake 2;").repeat(10));
            is("one by seed " + seed, x.year(seed, 1), 1);
            is("hour by seed " + seed, x.count(3), kind < 2 ? 1 : 0);
            is("water by seed " + seed, x.well(w, 4), kind == 2 || kind == 3 ? 10 - n : 10);
            is("awake by seed " + seed, x.awake(), kind == 4 ? 1023 - (1 << w) : kind == 5 ? 1 << w : 1023);
            if (kind == 2 || kind == 3) drawn[w * 5 + n - 1] = true;
        }
        for (int i = 0; i < drawn.length; i++) is("1 to 5 from 0 to 9, " + i, drawn[i], true);
    }

    @Says("as in a TRAY, if it can be (without WELLS: HOURS alone, no more numbers)")
    static void yearWithoutWells() {
        for (int seed : new int[] {0, 1, -1, 42, Integer.MIN_VALUE, Integer.MAX_VALUE}) {
            int[] at = {seed};
            int hours = 0;
            for (int i = 0; i < 30; i++) if (number(at) % 6 < 2) hours++;
            SnoringWells x = new SnoringWells();
            is("seed " + seed, x.year(seed, 30), hours);
            is("hour by seed " + seed, x.count(3), hours);
        }
    }

    @Says("TRAYS 0 to 3 are MISSING at first, or rows of 0 to 30 numbers of 8 bits (sort 0), 16 (1), 32 (2), 64 (3).")
    static void traysBounds() {
        SnoringWells x = new SnoringWells();
        for (int t = 0; t < 4; t++) {
            int tray = t;
            fails("missing " + t, STATE, () -> x.perform(tray));
            x.tray(tray, tray, 0);
            is("none in it", x.perform(tray), 0);
            fails("no place", INDEX, () -> x.write(tray, 0, 0));
            x.tray(tray, tray, 30);
            is("the last place", x.write(tray, 29, 1), 1);
            fails("no 31st place", INDEX, () -> x.write(tray, 30, 0));
            long most = tray == 3 ? Long.MAX_VALUE : (1L << (8 << tray) - 1) - 1;
            is("the greatest of sort " + t, x.write(tray, 0, most), most);
            is("one more of sort " + t, x.write(tray, 0, most + 1), -most - 1);
            is("the least of sort " + t, x.write(tray, 0, -most - 1), -most - 1);
            is("one less of sort " + t, x.write(tray, 0, -most - 2), most);
        }
        fails("no tray 4", NOSUCH, () -> x.tray(4, 0, 1));
        fails("no tray below 0", NOSUCH, () -> x.tray(-1, 0, 1));
    }

    @Says("IMAGES 0 to 2: all but the tape, the FAULT and TRAYS, as it was (none at first).")
    static void imagesBounds() {
        SnoringWells x = of(VALLEY);
        SnoringWells twin = of(VALLEY);
        for (int i = 0; i < 3; i++) {
            int image = i;
            fails("none at first " + i, STATE, () -> x.restore(image));
        }
        fails("no image 3", NOSUCH, () -> x.image(3));
        fails("no image below 0", NOSUCH, () -> x.image(-1));
        for (SnoringWells y : new SnoringWells[] {x, twin}) y.year(5, 30);
        row(x, 0, 0, 1);
        x.image(2);
        is("a fault", read(x, "hour 1"), -12);
        is("other hills", read(x, RING), 11);
        x.year(9, 30);
        feed(x, "hour 1;");
        is("a fault, the tape's rest", x.count(8), 20);
        x.write(0, 0, 0);
        x.tray(1, 0, 3);
        x.restore(2);
        is("the tape", x.count(8), 20);
        is("the fault", x.fault(0), 0);
        is("tray 0", x.seen(0), 286);
        is("tray 1", x.perform(1), 0);
        is("all else", past(x), past(twin));
        read(x, "hour 1;?");
        x.restore(2);
        is("the fault of a text behind it", x.fault(0) * 100 + x.fault(1), 107);
    }

    @Says("Of several throws of a call that one comes that is told first.")
    static void throwsInOrder() {
        SnoringWells x = of(VALLEY);
        x.tray(1, 0, 0);
        fails("well", NOSUCH, () -> x.well(3, 9));
        fails("house", NOSUCH, () -> x.house(2, 2));
        fails("judge, no tray", NOSUCH, () -> x.judge(4, 4));
        fails("judge, missing", STATE, () -> x.judge(0, 4));
        fails("perform", NOSUCH, () -> x.perform(4));
        fails("chain", NOSUCH, () -> x.chain(3, 100));
        fails("wakes, both one that is none", NOSUCH, () -> x.wakes(3, 3, 100));
        fails("wakes, the second", NOSUCH, () -> x.wakes(0, 3, 100));
        fails("wakes, the first", NOSUCH, () -> x.wakes(-1, 0, 100));
        fails("wakers", NOSUCH, () -> x.wakers(3, 100));
        fails("leastNoise", NOSUCH, () -> x.leastNoise(3, 2));
        fails("shield, the first", NOSUCH, () -> x.shield(3, 100, 0, 2));
        fails("shield, the second", NOSUCH, () -> x.shield(0, 100, 3, 2));
        fails("yawns, the first", NOSUCH, () -> x.yawns(3, 100, 0));
        fails("yawns, the second", NOSUCH, () -> x.yawns(0, 100, 3));
        fails("loudHour", NOSUCH, () -> x.loudHour(3, 100));
        fails("quietWell", NOSUCH, () -> x.quietWell(2, 41));
        fails("waterIn", NOSUCH, () -> x.waterIn(3, 201));
        fails("hasIn", NOSUCH, () -> x.hasIn(3, -1));
        fails("level, both one that is none", NOSUCH, () -> x.level(3, 3));
        fails("level, the second", NOSUCH, () -> x.level(0, 3));
        fails("seen", NOSUCH, () -> x.seen(4));
        fails("seen, missing", STATE, () -> x.seen(0));
        fails("roundAt", NOSUCH, () -> x.roundAt(4, -1));
        fails("roundAt, missing", STATE, () -> x.roundAt(0, -1));
        fails("listen", NOSUCH, () -> x.listen(-1));
        fails("listen, missing", STATE, () -> x.listen(0));
        fails("whose", NOSUCH, () -> x.whose(-1));
        fails("whose, missing", STATE, () -> x.whose(0));
        fails("tray", NOSUCH, () -> x.tray(4, 4, 31));
        fails("write", NOSUCH, () -> x.write(4, -1, 0));
        fails("write, missing", STATE, () -> x.write(0, -1, 0));
        fails("copy, no tray", NOSUCH, () -> x.copy(4, 3));
        fails("copy, missing, no well", NOSUCH, () -> x.copy(0, 3));
        fails("copy, missing", STATE, () -> x.copy(0, 0));
        fails("restore", NOSUCH, () -> x.restore(3));
    }

    /** Calls that throw, for hills of VALLEY, image 0 made, tray 0 laid out with five places, tray 1 with none, the others missing. */
    static void callAllThatThrow(SnoringWells x) {
        Silent[] arguments = {() -> x.hills(-1), () -> x.hills(901), () -> x.well(0, 9), () -> x.house(0, 2), () -> x.hours(0), () -> x.hours(100), () -> x.undo(0),
            () -> x.undo(11), () -> x.undo(10), () -> x.judge(0, 4), () -> x.year(1, 0), () -> x.year(1, 31), () -> x.together(8, true), () -> x.withAwake(4), () -> x.stillest(2),
            () -> x.chain(0, 100), () -> x.wakes(0, 0, 1), () -> x.wakers(0, -1), () -> x.leastNoise(0, 2), () -> x.shield(0, 100, 1, 0), () -> x.shield(0, 1, 1, 2),
            () -> x.loudest(100), () -> x.chorus(100, 0), () -> x.chorus(0, 2), () -> x.yawns(0, 100, 1), () -> x.loudHour(0, 100), () -> x.quietWell(0, 41), () -> x.plan(1),
            () -> x.served(41), () -> x.waterIn(0, 201), () -> x.hasIn(0, -1), () -> x.level(0, 0), () -> x.level(0, 2), () -> x.seen(0), () -> x.roundAt(0, 0), () -> x.listen(0),
            () -> x.whose(0), () -> x.seen(1), () -> x.tray(0, 4, 3), () -> x.tray(0, 0, 31), () -> x.tray(2, 0, -1)};
        Silent[] states = {() -> x.judge(2, 0), () -> x.perform(2), () -> x.seen(2), () -> x.roundAt(2, 0), () -> x.listen(2), () -> x.whose(2), () -> x.write(2, 0, 5),
            () -> x.copy(2, 0), () -> x.restore(1)};
        Silent[] noSuch = {() -> x.well(3, 0), () -> x.house(2, 0), () -> x.judge(4, 0), () -> x.perform(4), () -> x.wakesIn(3), () -> x.stays(3), () -> x.chain(3, 0),
            () -> x.wakes(0, 3, 0), () -> x.quietest(3), () -> x.quietHours(2), () -> x.seen(4), () -> x.tray(4, 0, 0), () -> x.write(4, 0, 5), () -> x.copy(0, 3),
            () -> x.image(3), () -> x.restore(3)};
        Silent[] places = {() -> x.write(0, 5, 7), () -> x.write(0, -1, 7), () -> x.write(1, 0, 7)};
        for (int i = 0; i < arguments.length; i++) fails("argument " + i, ARGUMENT, arguments[i]);
        for (int i = 0; i < states.length; i++) fails("state " + i, STATE, states[i]);
        for (int i = 0; i < noSuch.length; i++) fails("no such " + i, NOSUCH, noSuch[i]);
        for (int i = 0; i < places.length; i++) fails("place " + i, INDEX, places[i]);
    }

    static SnoringWells readyToThrow() {
        SnoringWells x = of(VALLEY);
        x.draw(0, 1);
        x.image(0);
        x.hours(3);
        x.draw(2, 2);
        read(x, "hour 1");
        row(x, 0, 1, -1, 3000, 201, 2002, -1);
        x.tray(1, 0, 0);
        feed(x, "hour 5;");
        return x;
    }

    @Says("A call that throws changes nothing.")
    static void throwsChangeNothing() {
        SnoringWells x = readyToThrow();
        SnoringWells twin = readyToThrow();
        callAllThatThrow(x);
        is("fault", x.fault(0) * 100 + x.fault(1), twin.fault(0) * 100 + twin.fault(1));
        is("tape", x.count(8), twin.count(8));
        is("hills", state(x), state(twin));
        for (int what = 0; what < 4; what++) is("tray 0, judged " + what, x.judge(0, what), twin.judge(0, what));
        is("tray 0, done", x.perform(0), twin.perform(0));
        is("tray 1", x.perform(1), twin.perform(1));
        fails("tray 2 is missing still", STATE, () -> x.perform(2));
        is("deeds", past(x), past(twin));
        x.restore(0);
        twin.restore(0);
        is("image 0", past(x), past(twin));
        fails("image 1 is none still", STATE, () -> x.restore(1));
        is("what was on the tape", x.hills(7), 1);
        is("its hour", x.count(3), 5);
    }

    public static void main(String[] args) throws Exception {
        runAll(TermsTest.class, 0, 0);
    }
}
