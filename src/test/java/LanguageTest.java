import java.lang.reflect.Constructor;
import java.lang.reflect.Field;
import java.lang.reflect.Method;
import java.lang.reflect.Modifier;
import java.nio.charset.StandardCharsets;
import java.nio.file.Files;
import java.nio.file.Path;
import java.util.ArrayList;
import java.util.Arrays;
import java.util.List;
import java.util.TreeSet;
import java.util.regex.Matcher;
import java.util.regex.Pattern;

/** The face is the document's and no more; the source keeps to what LANGUAGE.md leaves; a call makes few objects. */
public final class LanguageTest {
    static int wrong = 0;

    static void due(boolean good, String what) {
        if (!good) {
            wrong++;
            System.out.println("not so: " + what);
        }
    }

    static final String FACE = """
        int feed(int,int,int,int,int)
        int hills(int) IllegalArgumentException
        int fault(int)
        int well(int,int) NoSuchElementException IllegalArgumentException
        int house(int,int) NoSuchElementException IllegalArgumentException
        int awake()
        int water()
        int draw(int,int)
        int lull(int)
        int coin(int)
        int thunder()
        int hours(int) IllegalArgumentException
        int undo(int) IllegalArgumentException
        int judge(int,int) NoSuchElementException IllegalStateException IllegalArgumentException
        int perform(int) NoSuchElementException IllegalStateException
        int year(int,int) IllegalArgumentException
        int joint()
        int together(int,boolean) IllegalArgumentException
        int wakesIn(int) NoSuchElementException
        int stays(int) NoSuchElementException
        int withAwake(int) IllegalArgumentException
        int stillest(int) IllegalArgumentException
        int chain(int,int) NoSuchElementException IllegalArgumentException
        boolean wakes(int,int,int) NoSuchElementException IllegalArgumentException
        int quietest(int) NoSuchElementException
        int wakers(int,int) NoSuchElementException IllegalArgumentException
        int leastNoise(int,int) NoSuchElementException IllegalArgumentException
        int shield(int,int,int,int) NoSuchElementException IllegalArgumentException
        int loudest(int) IllegalArgumentException
        int chorus(int,int) IllegalArgumentException
        int yawns(int,int,int) NoSuchElementException IllegalArgumentException
        int loudHour(int,int) NoSuchElementException IllegalArgumentException
        long quietHours(int) NoSuchElementException
        int quietWell(int,int) NoSuchElementException IllegalArgumentException
        int plan(int) IllegalArgumentException
        int served(int) IllegalArgumentException
        int dry()
        int waterIn(int,int) NoSuchElementException IllegalArgumentException
        int hasIn(int,int) NoSuchElementException IllegalArgumentException
        int fullest()
        int level(int,int) NoSuchElementException IllegalArgumentException
        int seen(int) NoSuchElementException IllegalStateException IllegalArgumentException
        int roundAt(int,int) NoSuchElementException IllegalStateException IllegalArgumentException
        int listen(int) NoSuchElementException IllegalStateException IllegalArgumentException
        int whose(int) NoSuchElementException IllegalStateException IllegalArgumentException
        void tray(int,int,int) NoSuchElementException IllegalArgumentException
        long write(int,int,long) NoSuchElementException IllegalStateException IndexOutOfBoundsException
        int copy(int,int) NoSuchElementException IllegalStateException
        void image(int) NoSuchElementException
        void restore(int) NoSuchElementException IllegalStateException
        int count(int)
        """;

    /** The face as the document itself has it, in the form of FACE. */
    static String documentsFace() throws java.io.IOException {
        StringBuilder s = new StringBuilder();
        Matcher m = Pattern.compile("public (\\w+ \\w+)\\((.*?)\\)(?: throws (.*))?;").matcher(Files.readString(Path.of("..", "shared", "DOC.md")));
        while (m.find()) {
            s.append(m.group(1)).append("(").append(m.group(2).replaceAll(" \\w+(?=,|$)", "").replace(", ", ",")).append(")");
            s.append(m.group(3) == null ? "" : " " + m.group(3).replace(",", "")).append("\n");
        }
        return s.toString();
    }

    static String told(Method m) {
        StringBuilder s = new StringBuilder(m.getReturnType().getSimpleName() + " " + m.getName() + "(");
        s.append(String.join(",", Arrays.stream(m.getParameterTypes()).map(Class::getSimpleName).toList())).append(")");
        for (Class<?> e : m.getExceptionTypes()) s.append(" ").append(e.getSimpleName());
        return s.toString();
    }

    static void face() {
        Class<?> c = SnoringWells.class;
        due(Modifier.isPublic(c.getModifiers()) && Modifier.isFinal(c.getModifiers()), "the class is public and final");
        TreeSet<String> got = new TreeSet<>();
        TreeSet<String> names = new TreeSet<>();
        List<Method> hidden = new ArrayList<>();
        for (Method m : c.getDeclaredMethods()) {
            if (Modifier.isPublic(m.getModifiers())) {
                got.add(told(m));
                names.add(m.getName());
            } else {
                hidden.add(m);
            }
        }
        TreeSet<String> want = new TreeSet<>(Arrays.asList(FACE.strip().split("\n")));
        for (String s : want) due(got.contains(s), "the face has " + s);
        for (String s : got) due(want.contains(s), "the face has no " + s);
        for (Field f : c.getDeclaredFields()) {
            due(f.getName().equals("NONE") ? Modifier.isPublic(f.getModifiers()) : Modifier.isPrivate(f.getModifiers()), "field " + f.getName() + " is private");
            if (Modifier.isStatic(f.getModifiers())) due(Modifier.isFinal(f.getModifiers()), "field " + f.getName() + " is final");
        }
        for (Constructor<?> k : c.getDeclaredConstructors()) due(k.getParameterCount() == 0 && Modifier.isPublic(k.getModifiers()), "one public constructor");
        int classes = 1;
        for (Class<?> inside : c.getDeclaredClasses()) {
            classes++;
            due(Modifier.isStatic(inside.getModifiers()) && Modifier.isPrivate(inside.getModifiers()), inside.getName() + " is private and static");
            hidden.addAll(Arrays.asList(inside.getDeclaredMethods()));
            int fields = 0;
            for (Field f : inside.getDeclaredFields()) if (!Modifier.isStatic(f.getModifiers())) fields++;
            due(fields <= 20, inside.getName() + " has at most twenty fields");
        }
        due(classes <= 12, "at most twelve classes");
        for (Method m : hidden) {
            due(!names.contains(m.getName()), m.getName() + " is a name of the face");
            due(m.getParameterCount() <= 7, m.getName() + " takes at most seven parameters");
        }
    }

    static void source(Path file) throws java.io.IOException {
        String s = Files.readString(file, StandardCharsets.UTF_8);
        for (int i = 0; i < s.length(); i++) due(s.charAt(i) < 128, "sign " + i + " is plain");
        String code = s.replaceAll("(?s)/\\*.*?\\*/", "").replaceAll("//[^\n]*", "").replaceAll("\"[^\"]*\"", "\"\"");
        for (String no : new String[] {"try", "catch", "finally", "synchronized", "assert", "lambda", "var", "volatile", "native", "goto", "package", "Object", "Thread", "Random", "System"}) {
            due(!Pattern.compile("\\b" + no + "\\b").matcher(code).find(), "no " + no);
        }
        for (String no : new String[] {"->", "::", "Exact(", "@", "'\\u"}) due(!code.contains(no), "no " + no);
        Matcher imports = Pattern.compile("import [^;]*;").matcher(code);
        while (imports.find()) due(imports.group().equals("import java.util.NoSuchElementException;"), imports.group());
        Matcher library = Pattern.compile("\\b(Math|Integer|Long|String|Arrays)\\.(\\w+)").matcher(code);
        TreeSet<String> used = new TreeSet<>();
        while (library.find()) used.add(library.group());
        used.removeAll(List.of("Math.max", "Math.min", "Math.floorMod", "Integer.bitCount", "Integer.numberOfTrailingZeros", "Integer.MAX_VALUE", "Long.bitCount"));
        due(used.isEmpty(), "only these of the library, not " + used);
        Matcher thrown = Pattern.compile("\\bthrow\\b(?! new (NoSuchElement|IllegalArgument|IllegalState|IndexOutOfBounds)Exception\\(\"\"\\);)").matcher(code);
        due(!thrown.find(), "throws are new ones with a written text");
    }

    /** Rule 11: some sixty lines a method; the source is set out so that a method's last line stands as far in as its first. */
    static void lengths(Path file) throws java.io.IOException {
        Matcher method = Pattern.compile("(?m)^( {4}| {8})(?!private static final class|\\s|/|\\*)[^=\n;]*\\) ?[^=\n;]*\\{\n(?s:.*?)\n\\1\\}$").matcher(Files.readString(file));
        int methods = 0;
        while (method.find()) {
            methods++;
            long lines = method.group().lines().count();
            due(lines <= 60, lines + " lines: " + method.group().lines().findFirst().orElse(""));
        }
        due(methods > 150, "methods are found, not " + methods);
    }

    static final String FULL = "well every 8 awake 3;well every 9 awake 3 shift 4;well every 5 awake 1 shift 2;well every 7 awake 1 shift 3;well every 11 awake 5;"
        + "beside 0 1;beside 1 2;beside 2 3;beside 3 4;beside 0 4;house 1 from 0 1;house 2 from 2 3;house 1 from 4;wakes n>3 or phase>2;";

    static long allocated() {
        return ((com.sun.management.ThreadMXBean) java.lang.management.ManagementFactory.getThreadMXBean()).getCurrentThreadAllocatedBytes();
    }

    static void askAll(SnoringWells x) {
        for (int w = 0; w < 5; w++) {
            x.chain(w, 5); x.quietest(w); x.wakers(w, 5); x.leastNoise(w, 0); x.shield(0, 5, w, 1); x.yawns(0, 5, w); x.loudHour(w, 5); x.waterIn(w, 200); x.hasIn(w, 99);
            x.copy(0, w); x.seen(0); x.roundAt(0, 0); x.listen(0); x.whose(0); x.coin(w); x.draw(w, 1); x.lull(w); x.together(31, true);
        }
        x.withAwake(2); x.stillest(0); x.joint(); x.loudest(5); x.chorus(5, 1); x.quietHours(0); x.quietWell(0, 40); x.plan(0); x.plan(12); x.served(40); x.dry(); x.fullest();
        x.level(0, 1); x.thunder(); x.hours(99); x.judge(1, 2); x.perform(1); x.year(5, 30); x.image(0); x.restore(0); x.undo(1); x.count(4);
    }

    /** The room holds 7.3 million fields and elements for all calls of a run: rows are made once. The first round loads classes and isn't held to it. */
    static void room() {
        SnoringWells x = new SnoringWells();
        for (int round = 0; round < 4; round++) {
            byte[] text = Arrays.copyOf(FULL.getBytes(StandardCharsets.US_ASCII), (FULL.length() + 19) / 20 * 20);
            java.nio.ByteBuffer b = java.nio.ByteBuffer.wrap(text);
            long start = allocated();
            x = new SnoringWells();
            long made = allocated();
            due(round == 0 || made - start < 60_000, "a new object takes " + (made - start) + " bytes");
            while (b.hasRemaining()) x.feed(b.getInt(), b.getInt(), b.getInt(), b.getInt(), b.getInt());
            long fed = allocated();
            due(x.hills(FULL.length()) == 14, "the test's own text is good");
            due(round == 0 || allocated() - fed < 4_000, "hills() takes " + (allocated() - fed) + " bytes");
            x.tray(0, 0, 24);
            x.tray(1, 0, 30);
            for (int i = 0; i < 30; i++) x.write(1, i, -1);
            long ready = allocated();
            for (int i = 0; i < 3; i++) askAll(x);
            due(round == 0 || allocated() - ready < 4_000, "asking takes " + (allocated() - ready) + " bytes");
        }
    }

    public static void main(String[] args) throws java.io.IOException {
        Path file = Path.of(args.length > 0 ? args[0] : "src/main/java/SnoringWells.java");
        due(FACE.equals(documentsFace()), "the face told here is the document's");
        face();
        source(file);
        lengths(file);
        room();
        System.out.println(wrong == 0 ? "the face and the source are as due" : wrong + " are not as due");
        if (wrong != 0) System.exit(1);
    }
}
