import java.nio.charset.StandardCharsets;
import java.nio.file.Files;
import java.nio.file.Path;
import java.util.ArrayList;
import java.util.List;
import java.util.NoSuchElementException;
import java.util.regex.Matcher;
import java.util.regex.Pattern;

/**
 * Answers held against sentences of the document: each test quotes the words that it stands for, the words must be
 * in the document, and in the end no word of the document may be left without a test.
 */
final class Ledger {
    static final int NONE = -1;
    static final int HIDDEN = -1000000;
    static final int LOW = Integer.MIN_VALUE;
    static final int HIGH = Integer.MAX_VALUE;

    private static final Path DOCUMENT = Path.of("../shared/DOC.md");

    private static String document = "";
    private static boolean[] covered = new boolean[0];
    private static int sectionFrom;
    private static int sectionTo;
    private static String words = "";
    private static int madeHere;
    private static int wrongHere;
    private static int sentences;
    private static int made;
    private static int wrong;

    private Ledger() {
    }

    static void open() throws Exception {
        document = Files.readString(DOCUMENT, StandardCharsets.ISO_8859_1);
        covered = new boolean[document.length()];
        cover("(?m)^#.*$");
        cover("(?m)^```.*$");
        cover("`[^`\n]+`");
        cover("==== \\d\\.");
    }

    private static void cover(String pattern) {
        Matcher matcher = Pattern.compile(pattern).matcher(document);
        while (matcher.find()) {
            mark(matcher.start(), matcher.end());
        }
    }

    private static void mark(int from, int to) {
        for (int i = from; i < to; i++) {
            covered[i] = true;
        }
    }

    /** From here on sentences are quoted from what stands under this heading. */
    static void section(String heading) {
        int at = document.indexOf("## " + heading + "\n");
        due("the document has the heading " + heading, at < 0 ? 0 : 1, 1);
        sectionFrom = Math.max(at, 0);
        int next = document.indexOf("\n## ", sectionFrom + 1);
        sectionTo = next < 0 ? document.length() : next;
    }

    /** The words that the following answers stand for. */
    static void sentence(String quoted) {
        endSentence();
        words = quoted;
        sentences++;
        int at = document.indexOf(quoted, sectionFrom);
        boolean there = at >= 0 && at + quoted.length() <= sectionTo;
        due("the document has these words there", there ? 1 : 0, 1);
        madeHere = 0;
        if (there) {
            mark(at, at + quoted.length());
        }
    }

    private static void endSentence() {
        if (!words.isEmpty() && madeHere == 0) {
            wrong++;
            System.out.println("no answer is held against: " + words);
        }
        wrongHere = 0;
    }

    static void due(String call, long got, long want) {
        made++;
        madeHere++;
        if (got != want) {
            wrong++;
            wrongHere++;
            if (wrongHere == 1) {
                System.out.println("\"" + words + "\"");
            }
            if (wrongHere <= 5) {
                System.out.println("    " + call + " answered " + got + ", due is " + want);
            }
        }
    }

    static void due(String call, boolean got, boolean want) {
        due(call, got ? 1 : 0, want ? 1 : 0);
    }

    /** Closes the ledger: whether all answers were as due and no word of these headings is left without a test. */
    static boolean close(String from, String to) {
        endSentence();
        int begin = document.indexOf("## " + from + "\n");
        int end = document.indexOf("## " + to + "\n");
        due("the document goes from " + from + " to " + to, begin >= 0 && end > begin, true);
        StringBuilder left = new StringBuilder();
        for (int i = Math.max(begin, 0); i < end; i++) {
            left.append(covered[i] ? '\n' : document.charAt(i));
        }
        for (String piece : left.toString().split("\n")) {
            if (piece.matches(".*[A-Za-z0-9].*")) {
                wrong++;
                System.out.println("no test quotes: " + piece.trim());
            }
        }
        System.out.println(wrong == 0 ? made + " answers to " + sentences + " sentences are as due"
            : wrong + " answers are not as due");
        return wrong == 0;
    }

    // ---- what tests of all kinds need

    static SeriesDesk desk(String ring, String... steps) {
        SeriesDesk x = new SeriesDesk();
        Texts.tell(x, ring);
        due("text(0) of " + ring, x.text(0) > 0, true);
        for (String one : steps) {
            does(x, one);
        }
        return x;
    }

    static void does(SeriesDesk x, String step) {
        Texts.tell(x, step);
        due("step " + step, x.step() > 0, true);
    }

    static void script(SeriesDesk x, String told, int number) {
        Texts.tell(x, told);
        due("text(1) of " + told, x.text(1), number);
    }

    static void fault(int sort, String told, int want) {
        SeriesDesk x = new SeriesDesk();
        Texts.tell(x, told);
        due("fault(" + sort + ") of \"" + told + "\"", x.fault(sort), want);
    }

    static void good(int sort, String... told) {
        for (String one : told) {
            fault(sort, one, NONE);
        }
    }

    /** What an expression would come to, or why it can't be. */
    static void comes(SeriesDesk x, String expression, int... want) {
        Texts.tell(x, "a=" + expression);
        due("why() of " + expression, x.why(), NONE);
        due("would(-1) of " + expression, x.would(NONE), want.length);
        for (int i = 0; i < want.length; i++) {
            due("would(" + i + ") of " + expression, x.would(i), want[i]);
        }
        due("would behind the last place of " + expression, x.would(want.length), HIDDEN);
    }

    static void length(SeriesDesk x, String expression, int want) {
        Texts.tell(x, "a=" + expression);
        due("would(-1) of " + expression, x.would(NONE), want);
    }

    static void reason(SeriesDesk x, String expression, int want) {
        Texts.tell(x, "a=" + expression);
        due("why() of " + expression, x.why(), want);
    }

    static void row(SeriesDesk x, int register, int... want) {
        due("known(" + register + ")", x.known(register), want.length);
        for (int i = 0; i < want.length; i++) {
            due("coefficient(" + register + ", " + i + ")", coefficient(x, register, i), want[i]);
        }
        due("coefficient behind the last one", coefficient(x, register, want.length), HIDDEN);
    }

    /** A coefficient, or HIDDEN if the call throws what the document names. */
    static int coefficient(SeriesDesk x, int register, int i) {
        try {
            return x.coefficient(register, i);
        } catch (NoSuchElementException e) {
            return HIDDEN;
        }
    }

    static void logged(SeriesDesk x, int i, int sort, int register, int length) {
        due("log(" + i + ", 0)", x.log(i, 0), sort);
        due("log(" + i + ", 1)", x.log(i, 1), register);
        due("log(" + i + ", 2)", x.log(i, 2), length);
    }

    static void status(SeriesDesk x, int... want) {
        for (int what = 0; what < 6; what++) {
            due("status(" + what + ")", x.status(what), want[what]);
        }
    }

    /** All that can be asked without a change: REGISTERS, the LOG, the TAPE, SCRIPTS, the RING, but not STATUS. */
    static List<Integer> portrait(SeriesDesk x) {
        List<Integer> seen = brief(x);
        for (int register = 0; register < 8; register++) {
            int known = x.known(register);
            for (int i = 0; i < known; i++) {
                seen.add(coefficient(x, register, i));
            }
        }
        for (int i = 2; i < Math.min(x.count(3), 12); i++) {
            for (int what = 0; what < 3; what++) {
                seen.add(x.log(i, what));
            }
        }
        for (int sort = 0; sort < 3; sort++) {
            seen.add(x.fault(sort));
        }
        seen.add(x.why());
        seen.add(x.would(NONE));
        seen.add(x.would(0));
        for (int script = 0; script < 4; script++) {
            seen.add(x.target(script, NONE));
            seen.add(x.target(script, 0));
            seen.add(x.run(script, 2));
        }
        return seen;
    }

    /** Less of it, but something of everything that acts change: an object has no more than 512 calls. */
    private static List<Integer> brief(SeriesDesk x) {
        List<Integer> seen = new ArrayList<>();
        for (int what = 0; what < 5; what++) {
            seen.add(x.count(what));
        }
        seen.add(x.rule(0));
        seen.add(x.rule(1));
        for (int register = 0; register < 8; register++) {
            seen.add(x.known(register));
            seen.add(x.value(register, 3));
        }
        for (int what = 0; what < 3; what++) {
            seen.add(x.log(0, what));
            seen.add(x.log(1, what));
        }
        return seen;
    }

    /** The same of two objects, and of what undoing and going back would bring up: they are used up then. */
    static void same(String what, SeriesDesk x, SeriesDesk y) {
        due(what + ": all is as without it", portrait(x).equals(portrait(y)), true);
        for (int i = Math.min(y.count(4), 4); i > 0; i--) {
            due(what + ": undo()", x.undo(), y.undo());
            due(what + ": then all is as without it", brief(x).equals(brief(y)), true);
        }
        due(what + ": back()", x.back(), y.back());
        due(what + ": then all is as without it", brief(x).equals(brief(y)), true);
    }
}
