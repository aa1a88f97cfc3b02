import java.lang.management.ManagementFactory;
import java.lang.reflect.Field;
import java.lang.reflect.Method;
import java.lang.reflect.Modifier;
import java.nio.charset.StandardCharsets;
import java.nio.file.Files;
import java.nio.file.Path;
import java.util.ArrayList;
import java.util.List;
import java.util.Set;
import java.util.TreeSet;
import java.util.regex.Matcher;
import java.util.regex.Pattern;

/** Rules of LANGUAGE.md that can be looked up in the source or in the class, and the room that a run takes. */
public final class LanguageTest {
    private static final Path SOURCE = Path.of("src/main/java/SeriesDesk.java");
    private static final Path DOCUMENT = Path.of("../shared/DOC.md");
    private static final String[] BANNED = {"->", "::", "finally", "synchronized", "assert", "getMessage", "Exact(",
        "hashCode", "toString", "@Override", "System.out", "nanoTime", "Random", "double", "float", "instanceof",
        "\"\"\"", "static {", "catch", "Object"};

    private static int wrong;

    private LanguageTest() {
    }

    public static void main(String[] args) throws Exception {
        String source = Files.readString(SOURCE, StandardCharsets.ISO_8859_1);
        banned(source);
        imports(source);
        methodLengths(source);
        faceIsTheDocuments();
        classes();
        depths();
        neverThrows();
        room();
        System.out.println(wrong == 0 ? "the rules are kept" : wrong + " rules are broken");
        if (wrong != 0) {
            System.exit(1);
        }
    }

    private static void must(boolean holds, String what) {
        if (!holds) {
            wrong++;
            System.out.println("not so: " + what);
        }
    }

    private static void banned(String source) {
        for (String sign : BANNED) {
            must(!source.contains(sign), "the source is without " + sign);
        }
        for (int i = 0; i < source.length(); i++) {
            char c = source.charAt(i);
            must(c == '\n' || c >= 32 && c < 127, "plain signs alone, at " + i);
        }
    }

    private static void imports(String source) {
        Matcher matcher = Pattern.compile("(?m)^(import|package) .*$").matcher(source);
        Set<String> found = new TreeSet<>();
        while (matcher.find()) {
            found.add(matcher.group());
        }
        must(found.equals(Set.of("import java.util.Arrays;", "import java.util.NoSuchElementException;")),
            "imports are " + found);
    }

    private static void methodLengths(String source) {
        String[] lines = source.split("\n");
        int from = -1;
        String indent = "";
        for (int i = 0; i < lines.length; i++) {
            Matcher opened = Pattern.compile("( {4}| {8})(?! )[\\w\\[\\] ]+\\(.*\\) .*\\{").matcher(lines[i]);
            if (from < 0 && opened.matches()) {
                from = i;
                indent = opened.group(1);
            } else if (from >= 0 && lines[i].equals(indent + "}")) {
                must(i - from < 60, "short: " + lines[from]);
                from = -1;
            }
        }
    }

    private static void faceIsTheDocuments() throws Exception {
        String document = Files.readString(DOCUMENT, StandardCharsets.ISO_8859_1);
        Set<String> wanted = new TreeSet<>();
        Matcher matcher = Pattern.compile("public (?:int|boolean) (\\w+)\\((.*?)\\)").matcher(document);
        while (matcher.find()) {
            int given = matcher.group(2).isEmpty() ? 0 : matcher.group(2).split(",").length;
            wanted.add(matcher.group(1) + "/" + given);
        }
        Set<String> found = new TreeSet<>();
        Set<String> names = new TreeSet<>();
        for (Method method : SeriesDesk.class.getDeclaredMethods()) {
            if (!Modifier.isPrivate(method.getModifiers())) {
                found.add(method.getName() + "/" + method.getParameterCount());
                names.add(method.getName());
            }
        }
        must(wanted.size() == 33 && found.equals(wanted), "the face is " + wanted + ", not " + found);
        for (Class<?> type : all()) {
            for (Method method : type.getDeclaredMethods()) {
                boolean own = type != SeriesDesk.class || Modifier.isPrivate(method.getModifiers());
                must(!own || !names.contains(method.getName()), "no other method is called " + method.getName());
                must(method.getParameterCount() <= 7, "seven parameters at most: " + method.getName());
            }
        }
        must(SeriesDesk.class.getConstructors().length == 1, "one public constructor");
    }

    private static List<Class<?>> all() {
        List<Class<?>> types = new ArrayList<>(List.of(SeriesDesk.class.getDeclaredClasses()));
        types.add(SeriesDesk.class);
        return types;
    }

    private static void classes() {
        must(all().size() <= 12, "twelve classes at most");
        for (Class<?> type : all()) {
            int fields = 0;
            for (Field field : type.getDeclaredFields()) {
                boolean fixed = Modifier.isStatic(field.getModifiers());
                fields += fixed ? 0 : 1;
                must(!fixed || Modifier.isFinal(field.getModifiers()), "static fields are final: " + field);
                boolean shown = type == SeriesDesk.class && !Modifier.isPrivate(field.getModifiers());
                must(!shown || field.getName().equals("NONE") || field.getName().equals("HIDDEN"), "hidden: " + field);
            }
            must(fields <= 20, "twenty fields at most: " + type.getName());
            must(type == SeriesDesk.class || Modifier.isStatic(type.getModifiers()), "static: " + type.getName());
        }
    }

    /** Rules 8 and 11: what calls itself is the Reader alone, and no chain of other calls is deeper than eight. */
    private static void depths() throws Exception {
        CallGraph graph = CallGraph.of(SOURCE);
        for (String method : graph.recursive()) {
            must(method.startsWith("Reader.read"), "no recursion: " + method);
        }
        List<String> deepest = graph.deepest();
        must(graph.size() > 100 && deepest.size() > 4, "calls were found: " + graph.size());
        must(deepest.size() <= 8, "eight deep at most: " + deepest);
    }

    /** Every call with odd arguments, in every state: only coefficient throws, and only what the document names. */
    private static void neverThrows() throws Exception {
        int[] odd = {Integer.MIN_VALUE, -1000000, -2, -1, 0, 1, 2, 7, 8, 24, 25, 320, 997, Integer.MAX_VALUE};
        java.util.Random random = new java.util.Random(8);
        for (Method method : SeriesDesk.class.getDeclaredMethods()) {
            if (!Modifier.isPublic(method.getModifiers())) {
                continue;
            }
            for (int round = 0; round < 400; round++) {
                SeriesDesk x = stateOf(round % 4);
                Object[] given = new Object[method.getParameterCount()];
                for (int i = 0; i < given.length; i++) {
                    int one = odd[random.nextInt(odd.length)];
                    given[i] = method.getParameterTypes()[i] == long.class ? (Object) (long) one : (Object) one;
                }
                try {
                    method.invoke(x, given);
                } catch (java.lang.reflect.InvocationTargetException e) {
                    boolean named = e.getCause().getClass() == java.util.NoSuchElementException.class;
                    must(named && method.getName().equals("coefficient"), method.getName() + " throws " + e.getCause());
                }
            }
        }
    }

    private static SeriesDesk stateOf(int sort) {
        SeriesDesk x = new SeriesDesk();
        String[] told = {"a=b*c;h=R(a)", "sp997m24", "a=996/(1-996*x)", "h=Q2(4+x)", "c=T1(0)", "b=a"};
        for (int i = 0; i < told.length && sort > 0; i++) {
            Texts.tell(x, told[i]);
            int answer = i == 0 ? x.text(1) : i == 1 && sort > 1 ? x.text(0) : sort > 2 ? x.step() : 0;
            must(answer >= 0 || sort < 3, "the state is made by " + told[i]);
        }
        return x;
    }

    /** A run of the dearest calls, measured: all of it must be a small part of 7.3 million elements. */
    private static void room() {
        roomOf();
        long bytes = roomOf();
        must(bytes < 200_000, "a run of 512 calls takes " + bytes + " bytes");
        System.out.println("a run of 512 calls takes " + bytes + " bytes");
    }

    private static long roomOf() {
        com.sun.management.ThreadMXBean threads =
            (com.sun.management.ThreadMXBean) ManagementFactory.getThreadMXBean();
        List<int[]> told = new ArrayList<>();
        for (String text : new String[] {"sp97m24", "a=Q9((1+x)^99);b=R(x*a);c=C(a,b);d=L(T9(1+b));e=E(b)"}) {
            told.addAll(Texts.numbersOf(text));
        }
        long id = Thread.currentThread().getId();
        long before = threads.getThreadAllocatedBytes(id);
        SeriesDesk x = new SeriesDesk();
        for (int i = 0; i < told.size(); i++) {
            x.feed(told.get(i)[0], told.get(i)[1], told.get(i)[2], told.get(i)[3], told.get(i)[4]);
            if (i == 0) {
                x.text(0);
            }
        }
        int answers = x.text(1);
        for (int i = 0; i < 60; i++) {
            answers += x.perform(0) + x.run(0, 2) + x.years(40, i) + x.one(0) + x.recur(0, 0)
                + x.solve(0, 1, 2, -1, 1, 23) + x.starts(0, 1, 2, 3, 0) + x.undo() + x.fault(1);
        }
        must(answers != 0, "answers were given");
        return threads.getThreadAllocatedBytes(id) - before;
    }
}
