import java.io.IOException;
import java.lang.annotation.ElementType;
import java.lang.annotation.Retention;
import java.lang.annotation.RetentionPolicy;
import java.lang.annotation.Target;
import java.lang.reflect.InvocationTargetException;
import java.lang.reflect.Method;
import java.nio.file.Files;
import java.nio.file.Path;
import java.util.ArrayList;
import java.util.Arrays;
import java.util.Comparator;
import java.util.List;

/** Runs tests of which each stands for one sentence of the document: its remark has the document's words, and these must be there. */
class Sentences extends Hand {
    /** The words of a promise; of what stands ahead of the promises ("What it is", "Terms") if none is told. */
    @Retention(RetentionPolicy.RUNTIME)
    @Target(ElementType.METHOD)
    @interface Says {
        int promise() default 0;
        String value();
    }

    private static final Path DOCUMENT = Path.of("..", "shared", "DOC.md");

    /** Blanks and marks of code count for nothing when words are looked for. */
    private static String plain(String s) {
        return s.replace("`", "").replaceAll("\\s+", " ");
    }

    private static String between(String s, String head, String next) {
        int from = s.indexOf(head);
        int to = s.indexOf(next, Math.max(from, 0));
        return from < 0 ? "" : plain(s.substring(from, to < 0 ? s.length() : to));
    }

    /** What the document says of each promise, at 0 what it says ahead of them; nothing without the document. */
    private static List<String> sections() throws IOException {
        List<String> all = new ArrayList<>();
        if (!Files.exists(DOCUMENT)) return all;
        String s = Files.readString(DOCUMENT);
        all.add(between(s, "## What it is", "## Promise 1:"));
        for (int p = 1; p <= 52; p++) all.add(between(s, "## Promise " + p + ":", "\n## "));
        return all;
    }

    private static List<Method> testsOf(Class<?> tests) {
        List<Method> all = new ArrayList<>(Arrays.stream(tests.getDeclaredMethods()).filter(m -> m.isAnnotationPresent(Says.class)).toList());
        all.sort(Comparator.comparingInt((Method m) -> m.getAnnotation(Says.class).promise()).thenComparing(Method::getName));
        return all;
    }

    private static void wrong(String what) {
        wrong++;
        System.out.println(promise + ": " + what);
    }

    private static void run(Method m, List<String> sections) throws IllegalAccessException {
        Says says = m.getAnnotation(Says.class);
        promise = (says.promise() == 0 ? "terms" : "promise " + says.promise()) + ", " + m.getName() + ", \"" + says.value() + "\"";
        if (!sections.isEmpty() && !sections.get(says.promise()).contains(plain(says.value()))) wrong("the document doesn't say so");
        int before = checks;
        try {
            m.invoke(null);
        } catch (InvocationTargetException e) {
            wrong("the test itself fell by " + e.getCause());
        }
        if (checks == before) wrong("the test looks at nothing");
    }

    /** Runs all of a class; those from the first promise to the last one must each have a test there. */
    static void runAll(Class<?> tests, int first, int last) throws IOException, IllegalAccessException {
        List<String> sections = sections();
        boolean[] tested = new boolean[53];
        List<Method> all = testsOf(tests);
        for (Method m : all) {
            run(m, sections);
            tested[m.getAnnotation(Says.class).promise()] = true;
        }
        promise = tests.getSimpleName();
        for (int p = first; p <= last; p++) if (!tested[p]) wrong("no test for promise " + p);
        System.out.println(all.size() + " sentences, " + checks + " checks, " + wrong + " wrong");
        if (wrong != 0) System.exit(1);
    }
}
