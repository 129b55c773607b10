import java.nio.ByteBuffer;
import java.nio.charset.StandardCharsets;
import java.util.Arrays;
import java.util.NoSuchElementException;

/** What the tests worked out by hand share: how a text is read, an answer is held against the one that is due, a throw is awaited. */
class Hand {
    static int wrong = 0;
    static int checks = 0;
    static String promise = "";

    interface Silent { void now(); }

    static final Class<?> NOSUCH = NoSuchElementException.class;
    static final Class<?> STATE = IllegalStateException.class;
    static final Class<?> ARGUMENT = IllegalArgumentException.class;
    static final Class<?> INDEX = IndexOutOfBoundsException.class;

    static void is(String what, long got, long due) {
        checks++;
        if (got != due) {
            wrong++;
            System.out.println(promise + ": " + what + " is " + got + ", due is " + due);
        }
    }

    static void is(String what, boolean got, boolean due) { is(what, got ? 1 : 0, due ? 1 : 0); }

    static void fails(String what, Class<?> due, Silent call) {
        checks++;
        try {
            call.now();
        } catch (RuntimeException e) {
            if (e.getClass() == due) return;
            wrong++;
            System.out.println(promise + ": " + what + " throws " + e.getClass().getSimpleName() + ", due is " + due.getSimpleName());
            return;
        }
        wrong++;
        System.out.println(promise + ": " + what + " throws nothing, due is " + due.getSimpleName());
    }

    static void feed(SnoringWells x, String text) {
        byte[] bytes = text.getBytes(StandardCharsets.ISO_8859_1);
        ByteBuffer b = ByteBuffer.wrap(Arrays.copyOf(bytes, (bytes.length + 19) / 20 * 20));
        while (b.hasRemaining()) x.feed(b.getInt(), b.getInt(), b.getInt(), b.getInt(), b.getInt());
    }

    static int read(SnoringWells x, String text) {
        feed(x, text);
        return x.hills(text.length());
    }

    static SnoringWells of(String text) {
        SnoringWells x = new SnoringWells();
        int lines = read(x, text);
        if (lines < 0) throw new IllegalStateException("the test's own text has fault " + lines + ": " + text);
        return x;
    }

    static void row(SnoringWells x, int tray, int sort, long... v) {
        x.tray(tray, sort, v.length);
        for (int i = 0; i < v.length; i++) x.write(tray, i, v[i]);
    }

    /** 0 is awake in hours 0, 1 of 4; 1 in hour 1 of 3; 2 in hours 3, 4, 5 of 6. */
    static final String VALLEY = "well every 4 awake 2;well every 3 awake 1 shift 2 deep 5 water 2;well every 6 awake 3 shift 3;"
        + "beside 0 1;beside 1 2;house 3 from 0;house 2 from 1 2;wakes n>2 or wa>9 and n=0;hour 0;";

    /** 0 awake, 1 to 4 asleep in a ring: 0-1-2-3-0 and 4 beside 2 alone; any noise wakes. */
    static final String RING = "well every 4 awake 2;well every 4 awake 2 shift 2;well every 4 awake 2 shift 2;well every 4 awake 2 shift 2;"
        + "well every 4 awake 2 shift 2;beside 0 1;beside 1 2;beside 2 3;beside 3 0;beside 2 4;wakes 1=1;";

    /** 21 bytes. */
    static final String W = "well every 4 awake 1;";

    /** Rounds that meet again behind 27720 hours, all awake in hour 0 alone. */
    static final String ALL_ROUNDS = "well every 8 awake 1;well every 9 awake 1;well every 5 awake 1;well every 7 awake 1;well every 11 awake 1;"
        + "well every 2 awake 1;well every 3 awake 1;well every 10 awake 1;well every 12 awake 1;well every 6 awake 1;";

    /** What it was read as is due to be a fault, of that kind and at that place. */
    static void fault(String text, int kind, int place) {
        SnoringWells x = new SnoringWells();
        int got = read(x, text);
        is("'" + text + "'", got, -10 - kind);
        is("fault of '" + text + "'", x.fault(0), kind);
        is("place in '" + text + "'", x.fault(1), place);
    }

    /** Whether a law wakes well 1 by a noise of 6 at well 0: da 30, db 40, wa 7, wb 9, n 6, hour 1, phase 3, many 2. */
    static boolean holds(String law) {
        return of("well every 4 awake 2 deep 30 water 7;well every 5 awake 2 shift 3 deep 40 water 9;well every 3 awake 3;beside 0 1;beside 0 2;hour 25;wakes " + law + ";").chain(0, 6) == 2;
    }

    /** A seed whose first numbers modulo 6 are as told. */
    static int seedFor(int... kinds) {
        for (int seed = 0; seed < 10_000_000; seed++) {
            int x = seed;
            boolean good = true;
            for (int k : kinds) {
                x = 1103515245 * x + 12345;
                good &= (x >>> 16) % 6 == k;
            }
            if (good) return seed;
        }
        throw new IllegalStateException("no seed");
    }

    static void is(String what, String got, String due) {
        checks++;
        if (!got.equals(due)) {
            wrong++;
            System.out.println(promise + ": " + what + " is " + got + ", due is " + due);
        }
    }

    /** All that can be asked of the hills as they are, but for the tape, the fault and the trays. */
    static String state(SnoringWells x) {
        StringBuilder s = new StringBuilder();
        for (int k = 0; k < 10; k++) s.append(k == 8 ? "" : x.count(k) + " ");
        for (int w = 0; w < x.count(1); w++) {
            s.append("/");
            for (int k = 0; k < 9; k++) s.append(" ").append(x.well(w, k));
        }
        for (int h = 0; h < x.count(2); h++) s.append("/ ").append(x.house(h, 0)).append(" ").append(x.house(h, 1));
        return s.toString();
    }

    /** The same for all that was ahead of each deed; they are undone by it. */
    static String past(SnoringWells x) {
        StringBuilder s = new StringBuilder(state(x));
        for (int left = x.count(7); left > 0; left--) {
            x.undo(1);
            s.append(" <- ").append(state(x));
        }
        return s.toString();
    }
}
