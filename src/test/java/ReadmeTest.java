import java.io.ByteArrayOutputStream;
import java.io.PrintStream;
import java.lang.reflect.Method;
import java.lang.reflect.Modifier;
import java.net.URL;
import java.net.URLClassLoader;
import java.nio.charset.StandardCharsets;
import java.nio.file.Files;
import java.nio.file.Path;
import java.util.ArrayList;
import java.util.List;
import java.util.Set;
import java.util.TreeSet;
import java.util.regex.Matcher;
import java.util.regex.Pattern;
import java.util.stream.Stream;
import javax.tools.ToolProvider;

/** README.md: its program prints what stands behind its lines; its calls and tests are those that there are. */
public final class ReadmeTest {
    private static final Path TESTS = Path.of("src/test/java");
    private static int wrong;

    private ReadmeTest() {
    }

    public static void main(String[] args) throws Exception {
        String page = Files.readString(Path.of("README.md"), StandardCharsets.UTF_8);
        program(blockOf(page));
        calls(page);
        tests(page);
        System.out.println(wrong == 0 ? "the page is as it says" : wrong + " things on the page are not so");
        if (wrong != 0) {
            System.exit(1);
        }
    }

    private static void must(boolean holds, String what) {
        if (!holds) {
            wrong++;
            System.out.println("not so: " + what);
        }
    }

    private static Set<String> all(String pattern, String text) {
        Set<String> found = new TreeSet<>();
        Matcher matcher = Pattern.compile(pattern).matcher(text);
        while (matcher.find()) {
            found.add(matcher.group(1));
        }
        return found;
    }

    private static String blockOf(String page) {
        Matcher matcher = Pattern.compile("(?s)```java\n(.*?)```").matcher(page);
        return matcher.find() ? matcher.group(1) : "";
    }

    private static void program(String source) throws Exception {
        List<String> wanted = new ArrayList<>();
        Matcher matcher = Pattern.compile("println\\(.*\\); +// (-?\\d+): ").matcher(source);
        while (matcher.find()) {
            wanted.add(matcher.group(1));
        }
        must(wanted.size() > 10, "the page has a program that prints");
        must(source.split("println").length == wanted.size() + 1, "what is printed stands behind each line");
        List<String> printed = printedBy(source);
        must(printed.equals(wanted), "the program prints " + wanted + ": it prints " + printed);
    }

    private static List<String> printedBy(String source) throws Exception {
        Path folder = Files.createTempDirectory("readme");
        Path file = folder.resolve("Example.java");
        Files.writeString(file, source);
        int failed = ToolProvider.getSystemJavaCompiler().run(null, null, null, "-Xlint:all", "-Werror",
            "-cp", System.getProperty("java.class.path"), "-d", folder.toString(), file.toString());
        must(failed == 0, "the program can be compiled");
        ByteArrayOutputStream bytes = new ByteArrayOutputStream();
        if (failed == 0) {
            PrintStream usual = System.out;
            System.setOut(new PrintStream(bytes, true, StandardCharsets.UTF_8));
            try (URLClassLoader loader = new URLClassLoader(new URL[] {folder.toUri().toURL()})) {
                Method main = loader.loadClass("Example").getMethod("main", String[].class);
                main.invoke(null, (Object) new String[0]);
            } finally {
                System.setOut(usual);
            }
        }
        try (Stream<Path> made = Files.list(folder)) {
            for (Path one : made.toList()) {
                Files.delete(one);
            }
        }
        Files.delete(folder);
        return bytes.toString(StandardCharsets.UTF_8).lines().toList();
    }

    private static void calls(String page) {
        Set<String> face = new TreeSet<>();
        for (Method method : SeriesDesk.class.getDeclaredMethods()) {
            if (Modifier.isPublic(method.getModifiers())) {
                face.add(method.getName());
            }
        }
        int from = page.indexOf("### The calls");
        int to = page.indexOf("\n\n", page.indexOf("\n| calls ", Math.max(from, 0)));
        Set<String> told = from < 0 || to < from ? Set.of() : all("`(\\w+)`", page.substring(from, to));
        must(told.equals(face), "the calls are " + face + ", the page tells " + told);
    }

    private static void tests(String page) throws Exception {
        Set<String> there = new TreeSet<>();
        try (Stream<Path> files = Files.list(TESTS)) {
            files.forEach(file -> there.add(file.getFileName().toString().replace(".java", "")));
        }
        int from = page.indexOf("\n## Tests\n");
        Set<String> told = all("`([A-Z]\\w+?)(?:\\.\\w+)?`", page.substring(Math.max(from, 0)));
        for (String one : told) {
            must(one.equals("Test") || there.contains(one), "there is a file of " + one);
        }
        for (String one : there) {
            must(!one.endsWith("Test") && !one.endsWith("Bounds") || told.contains(one), "the page tells " + one);
        }
        must(Files.isExecutable(Path.of(".ci/run")) && page.contains("\n.ci/run\n"), "the script stands as told");
    }
}
