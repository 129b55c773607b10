import java.lang.reflect.InvocationTargetException;
import java.lang.reflect.Method;
import java.lang.reflect.Modifier;
import java.util.Arrays;
import java.util.Comparator;
import java.util.List;

/**
 * LANGUAGE.md, rules 6 and 7: whatever the arguments, in whatever state, a call throws what its promise names and
 * nothing else, and never what the machine throws. Each call of the face meets all the edges of its arguments together.
 */
public final class SweepTest extends Hand {
    private static final int CALLS = 500;
    private static final int[] EDGES = {Integer.MIN_VALUE, -100, -2, -1, 0, 1, 2, 3, 4, 5, 6, 9, 10, 15, 16, 30, 31, 40, 41, 99, 100, 200, 201, 512, 1023, 1024, Integer.MAX_VALUE};
    private static final int[] FEW = {Integer.MIN_VALUE, -1, 0, 1, 3, 4, 9, 10, 99, 100, Integer.MAX_VALUE};
    private static final long[] LONGS = {Long.MIN_VALUE, -1, 0, 3000, Long.MAX_VALUE};

    private static final String FULL = "well every 8 awake 3;well every 9 awake 3 shift 4;well every 5 awake 5;well every 7 awake 1 shift 3;well every 11 awake 5 deep 99 water 0;"
        + "well every 2 awake 1 shift 1;well every 12 awake 1 shift 1 deep 1;well every 3 awake 3;well every 4 awake 2 shift 2;well every 6 awake 5;"
        + "beside 0 1;beside 1 3;beside 3 4;beside 4 5;beside 5 6;beside 6 8;beside 8 0;beside 0 9;house 1 from 0 1;house 2 from 2 3;house 1 from 4;house 99 from 4;house 1 from 9;house 3 from 2;"
        + "wakes n>3 or (wb-wa)*(0-1)<phase;hour 999;";

    private static SnoringWells ready(int kind) {
        SnoringWells x = kind == 0 ? new SnoringWells() : of(kind == 1 ? VALLEY : FULL);
        if (kind < 2) return x;
        x.image(1);
        x.year(3, 30);
        x.thunder();
        if (kind == 3) feed(x, "well every 2 awake 1;" + " ".repeat(879));
        row(x, 1, 1, 1, 2000, 2103, 3000, -1);
        x.tray(2, 0, kind == 2 ? 24 : 0);
        x.tray(3, 3, 30);
        return x;
    }

    private static Object argument(Class<?> type, int[] edges, int i) {
        if (type == boolean.class) return i % 2 == 0;
        return type == long.class ? (Object) LONGS[i % LONGS.length] : (Object) edges[i];
    }

    private static void call(SnoringWells x, Method m, Object[] arguments) throws IllegalAccessException {
        checks++;
        try {
            m.invoke(x, arguments);
        } catch (InvocationTargetException e) {
            if (List.of(m.getExceptionTypes()).contains(e.getCause().getClass())) return;
            wrong++;
            System.out.println(m.getName() + Arrays.toString(arguments) + " throws " + e.getCause());
        }
    }

    private static void sweep(Method m, int kind) throws IllegalAccessException {
        Class<?>[] types = m.getParameterTypes();
        int[] edges = types.length < 3 ? EDGES : FEW;
        int all = 1;
        for (int i = 0; i < types.length; i++) all *= types[i] == boolean.class ? 2 : types[i] == long.class ? LONGS.length : edges.length;
        if (m.getName().equals("feed")) all = CALLS;
        SnoringWells x = ready(kind);
        for (int k = 0; k < all; k++) {
            if (k % CALLS == CALLS - 100) x = ready(kind);
            Object[] arguments = new Object[types.length];
            int rest = k;
            for (int i = 0; i < types.length; i++) {
                int many = types[i] == boolean.class ? 2 : types[i] == long.class ? LONGS.length : edges.length;
                arguments[i] = argument(types[i], edges, rest % many);
                rest /= many;
            }
            call(x, m, arguments);
        }
    }

    public static void main(String[] args) throws Exception {
        Method[] all = SnoringWells.class.getDeclaredMethods();
        Arrays.sort(all, Comparator.comparing(Method::getName));
        for (int kind = 0; kind < 4; kind++) {
            for (Method m : all) if (Modifier.isPublic(m.getModifiers())) sweep(m, kind);
        }
        System.out.println(checks + " calls, " + wrong + " throw what they should not");
        if (wrong != 0) System.exit(1);
    }
}
