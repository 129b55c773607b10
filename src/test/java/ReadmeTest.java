import java.io.ByteArrayOutputStream;
import java.io.IOException;
import java.io.PrintStream;
import java.lang.reflect.Method;
import java.lang.reflect.Modifier;
import java.net.URL;
import java.net.URLClassLoader;
import java.nio.file.Files;
import java.nio.file.Path;
import java.util.ArrayList;
import java.util.Comparator;
import java.util.List;
import java.util.TreeSet;
import java.util.regex.Matcher;
import java.util.regex.Pattern;
import java.util.stream.Stream;
import javax.tools.ToolProvider;

/** What README.md tells: its program compiles and prints the numbers that stand behind its calls; its table names the whole face. */
public final class ReadmeTest extends Hand {
    private static String between(String s, String head, String end) {
        int from = s.indexOf(head);
        int to = from < 0 ? -1 : s.indexOf(end, from + head.length());
        return to < 0 ? "" : s.substring(from + head.length(), to);
    }

    /** The numbers told behind show(..), in the order of the lines. */
    private static List<String> told(String program) {
        List<String> all = new ArrayList<>();
        Matcher m = Pattern.compile("show\\(.*\\); +// (-?\\d+)").matcher(program);
        while (m.find()) all.add(m.group(1));
        return all;
    }

    private static void clear(Path folder) throws IOException {
        try (Stream<Path> files = Files.walk(folder)) {
            for (Path f : files.sorted(Comparator.reverseOrder()).toList()) Files.delete(f);
        }
    }

    private static String printed(Path folder) throws Exception {
        PrintStream before = System.out;
        ByteArrayOutputStream bytes = new ByteArrayOutputStream();
        try (URLClassLoader loader = new URLClassLoader(new URL[] {folder.toUri().toURL()}, ReadmeTest.class.getClassLoader())) {
            System.setOut(new PrintStream(bytes, true));
            loader.loadClass("Example").getMethod("main", String[].class).invoke(null, (Object) new String[0]);
        } finally {
            System.setOut(before);
        }
        return String.join("\n", bytes.toString().lines().toList());
    }

    private static void example(String program) throws Exception {
        promise = "the program";
        Path folder = Files.createTempDirectory("readme");
        try {
            Path file = Files.writeString(folder.resolve("Example.java"), program);
            int refused = ToolProvider.getSystemJavaCompiler().run(null, null, null, "-cp", System.getProperty("java.class.path"), "-d", folder.toString(), file.toString());
            is("what javac answers", refused, 0);
            if (refused != 0) return;
            List<String> due = told(program);
            is("whether each show(..) has its number", due.size(), program.split(" show\\((?!long)").length - 1);
            is("what it prints", printed(folder), String.join("\n", due));
        } finally {
            clear(folder);
        }
    }

    private static void table(String readme) {
        promise = "the table";
        TreeSet<String> named = new TreeSet<>();
        Matcher m = Pattern.compile("`(\\w+)`").matcher(between(readme, "|---|---|\n", "\n\n"));
        while (m.find()) named.add(m.group(1));
        TreeSet<String> face = new TreeSet<>();
        for (Method call : SnoringWells.class.getDeclaredMethods()) if (Modifier.isPublic(call.getModifiers())) face.add(call.getName());
        is("what it names", named.toString(), face.toString());
    }

    /** Each test is told of, and none that isn't there. */
    private static void tests(String readme) throws IOException {
        promise = "the tests";
        TreeSet<String> named = new TreeSet<>();
        Matcher m = Pattern.compile("(?m)^- `(\\w+Test)`:").matcher(readme);
        while (m.find()) named.add(m.group(1) + ".java");
        TreeSet<String> there = new TreeSet<>();
        try (Stream<Path> files = Files.list(Path.of("src", "test", "java"))) {
            files.map(f -> f.getFileName().toString()).filter(f -> f.endsWith("Test.java")).forEach(there::add);
        }
        is("which are told", named.toString(), there.toString());
    }

    public static void main(String[] args) throws Exception {
        String readme = Files.readString(Path.of("README.md"));
        example(between(readme, "```java\n", "```"));
        table(readme);
        tests(readme);
        System.out.println(checks + " checks, " + wrong + " wrong");
        if (wrong != 0) System.exit(1);
    }
}
