import java.nio.charset.StandardCharsets;
import java.nio.file.Files;
import java.nio.file.Path;
import java.util.ArrayList;
import java.util.List;
import java.util.Random;

/**
 * What the document says ahead of its terms. Its first sentence is held by what must be so whatever the formulas are:
 * what is known does not hang on what is not known, and what is solved solves.
 */
final class FrontBounds {
    private static final int NONE = Ledger.NONE;
    private static final int ROWS = 8;

    private static final Random RANDOM = new Random(11);

    private FrontBounds() {
    }

    static void all() throws Exception {
        Ledger.section("What it is");
        lengths();
        neverFurther();
        justAsFar();
        doubling();
        lifting();
        equations();
        recurrences();
        alike();
        powersToOne();
        values();
        firstReasons();
        texts();
        actsUndone();
        Ledger.section("The public face");
        face();
    }

    private static int below(int n) {
        return RANDOM.nextInt(n);
    }

    private static int[] drawn(int prime, int length, int order) {
        int[] row = new int[length];
        for (int i = order; i < length; i++) {
            row[i] = i == order ? 1 + below(prime - 1) : below(prime);
        }
        return row;
    }

    /** The same row with more places behind. */
    private static int[] longer(int[] row, int more, int prime) {
        int[] all = java.util.Arrays.copyOf(row, row.length + more);
        for (int i = row.length; i < all.length; i++) {
            all[i] = below(prime);
        }
        return all;
    }

    /** A row of up to twelve places as an expression that is known so far. */
    private static String told(int[] row) {
        StringBuilder s = new StringBuilder("T").append(row.length).append('(').append(row[0]);
        for (int i = 1; i < row.length; i++) {
            if (row[i] != 0) {
                s.append('+').append(row[i]).append("*x^").append(i);
            }
        }
        return s.append(')').toString();
    }

    private static SeriesDesk holding(String ring, int[]... rows) {
        SeriesDesk x = Ledger.desk(ring);
        for (int register = 0; register < rows.length; register++) {
            put(x, register, rows[register]);
        }
        return x;
    }

    private static void put(SeriesDesk x, int register, int[] row) {
        Ledger.does(x, (char) ('a' + register) + "=" + told(row));
    }

    private static int[] asked(SeriesDesk x, int register) {
        int[] row = new int[x.known(register)];
        for (int i = 0; i < row.length; i++) {
            row[i] = Ledger.coefficient(x, register, i);
        }
        return row;
    }

    private static void lengths() {
        Ledger.sentence("Power series known to some length, by a prime:");
        for (int prime : new int[] {2, 3, 7, 101, 997}) {
            for (int length = 1; length <= 12; length++) {
                int[] row = drawn(prime, length, below(length));
                Ledger.row(holding("sm12p" + prime, row), 0, row);
            }
        }
    }

    /** Whatever stands behind the known places: what was known of the outcome stays, and no less is known. */
    private static void neverFurther() {
        Ledger.sentence("what is told as sums, products, quotients, powers, derivatives, integrals, logarithms, "
            + "exponentials, roots, compositions, reversions of others is known just as far as these let it be, "
            + "never further;");
        Expressions expressions = new Expressions(RANDOM);
        int[] primes = {2, 3, 5, 7, 13, 101, 997};
        for (int group = 0; group < 60; group++) {
            int prime = primes[group % primes.length];
            String ring = "sm" + (6 + below(19)) + "p" + prime;
            int[][] few = new int[ROWS][];
            int[][] many = new int[ROWS][];
            for (int register = 0; register < ROWS; register++) {
                int length = 1 + below(6);
                few[register] = drawn(prime, length, Math.min(below(4), below(length + 1)));
                many[register] = longer(few[register], below(6), prime);
            }
            SeriesDesk x = holding(ring, few);
            SeriesDesk y = holding(ring, many);
            for (int round = 0; round < 20; round++) {
                staysKnown(x, y, expressions.any(1 + below(3)));
            }
        }
    }

    private static void staysKnown(SeriesDesk x, SeriesDesk y, String expression) {
        Texts.tell(x, "a=" + expression);
        Texts.tell(y, "a=" + expression);
        int length = x.would(NONE);
        int why = y.why();
        if (x.why() != NONE || why == 3) {
            return;
        }
        Ledger.due("why() of " + expression + ", more being known", why, NONE);
        Ledger.due("no less of " + expression + " is known then", y.would(NONE) >= length, true);
        int[] places = {0, length / 2, length - 1};
        for (int i : places) {
            Ledger.due("would(" + i + ") of " + expression + ", more being known", y.would(i), x.would(i));
        }
    }

    /** The place behind the last known one is one thing or another, as what is not known of the others may be. */
    private static void justAsFar() {
        String[] each = {"a+b", "a-b", "b-a", "a*b", "a*c", "c*c*d", "a/b", "c/b", "d/c", "a^2", "c^3", "D(a)", "S(a)",
            "L(a)", "E(c)", "R(c)", "Q2(a)", "Q3(b)", "C(a,c)", "C(b,d)", "C(d,c)", "H(a,b)", "H(a,b,a)", "1/a",
            "D(c)*d", "S(b)/c", "C(1/a,c)", "R(S(a))", "E(S(b))", "Q9(b*b)"};
        for (String expression : each) {
            for (int length = 4; length <= 6; length++) {
                int[][] rows = {drawn(101, length, 0), drawn(101, length, 0), drawn(101, length, 1),
                    drawn(101, length, 2)};
                rows[0][0] = 1;
                rows[1][0] = 1;
                SeriesDesk x = holding("sp101m24", rows);
                Texts.tell(x, "a=" + expression);
                int known = x.would(NONE);
                Ledger.due(expression + " can be", x.why(), NONE);
                Ledger.due("more than one at " + known + " of " + expression, variety(rows, expression, known) > 1, true);
            }
        }
    }

    private static int variety(int[][] rows, String expression, int place) {
        List<Integer> seen = new ArrayList<>();
        for (int round = 0; round < 6; round++) {
            SeriesDesk y = holding("sp101m24", longer(rows[0], 1, 101), longer(rows[1], 1, 101),
                longer(rows[2], 1, 101), longer(rows[3], 1, 101));
            Texts.tell(y, "a=" + expression);
            int one = y.would(place);
            Ledger.due("one place more of " + expression + " is known then", one != Ledger.HIDDEN, true);
            if (!seen.contains(one)) {
                seen.add(one);
            }
        }
        return seen.size();
    }

    private static void doubling() {
        Ledger.sentence("inverses by doubling,");
        for (int prime : new int[] {2, 3, 5, 31, 997}) {
            for (int length = 1; length <= 12; length++) {
                SeriesDesk x = holding("sm24p" + prime, drawn(prime, length, 0));
                Ledger.does(x, "b=1/a");
                for (int k = 0; k <= 4; k++) {
                    int places = Math.min(1 << k, length);
                    Ledger.due("newton(0, " + k + ", -1)", x.newton(0, k, NONE), places);
                    for (int i = 0; i < places; i++) {
                        Ledger.due("newton(0, " + k + ", " + i + ")", x.newton(0, k, i), Ledger.coefficient(x, 1, i));
                    }
                }
            }
        }
    }

    private static void lifting() {
        Ledger.sentence("roots by lifting,");
        for (int prime : new int[] {2, 3, 5, 7, 31, 997}) {
            for (int k = 2; k <= 9; k++) {
                int[] row = drawn(prime, 1 + below(11), 0);
                SeriesDesk x = holding("sm24p" + prime, row);
                Ledger.does(x, "b=a^" + k);
                if (k % prime == 0) {
                    Ledger.reason(x, "Q" + k + "(b)", 3);
                    continue;
                }
                Ledger.does(x, "c=Q" + k + "(b)");
                Ledger.comes(x, "c^" + k, asked(x, 1));
                Ledger.due("the least first one", Ledger.coefficient(x, 2, 0) <= row[0], true);
            }
        }
    }

    private static void equations() {
        Ledger.sentence("equations of degree three solved from a first number on;");
        for (int prime : new int[] {2, 3, 5, 7, 31, 997}) {
            for (int round = 0; round < 12; round++) {
                int[][] rows = new int[4][];
                for (int degree = 0; degree <= 3; degree++) {
                    rows[degree] = drawn(prime, 3 + below(8), 0);
                }
                SeriesDesk x = holding("sm12p" + prime, rows);
                int start = x.starts(0, 1, 2, 3, 1);
                if (start != NONE) {
                    solves(x, start);
                }
            }
        }
    }

    private static void solves(SeriesDesk x, int start) {
        int[] row = new int[x.solve(0, 1, 2, 3, start, NONE)];
        for (int i = 0; i < row.length; i++) {
            row[i] = x.solve(0, 1, 2, 3, start, i);
        }
        Ledger.due("its first number", row[0], start);
        put(x, 4, row);
        Ledger.comes(x, "a+b*e+c*e^2+d*e^3", new int[row.length]);
    }

    private static void recurrences() {
        Ledger.sentence("the shortest recurrence,");
        for (int prime : new int[] {2, 3, 5, 997}) {
            for (int round = 0; round < 30; round++) {
                int[] row = drawn(prime, 1 + below(12), 0);
                SeriesDesk x = holding("sm24p" + prime, row);
                int shortest = x.recur(0, 0);
                for (int place = shortest; shortest != NONE && place < row.length; place++) {
                    long sum = 0;
                    for (int i = 1; i <= shortest; i++) {
                        sum += (long) x.recur(0, i) * row[place - i];
                    }
                    Ledger.due("at " + place + " by recur", sum % prime, row[place]);
                }
                Ledger.due("told if twice as long", shortest == NONE || 2 * shortest <= row.length, true);
                Ledger.due("c 1 is told only if L is", x.recur(0, 1) == NONE, shortest <= 0);
            }
        }
    }

    private static void alike() {
        Ledger.sentence("how far two are alike,");
        for (int same = 0; same <= 8; same++) {
            int[] first = drawn(7, 8, 0);
            int[] other = longer(first, 2, 7);
            if (same < 8) {
                other[same] = (other[same] + 1 + below(6)) % 7;
            }
            SeriesDesk x = holding("sp7", first, other);
            Ledger.due("alike(0, 1)", x.alike(0, 1), same);
            Ledger.does(x, "c=a-b");
            Ledger.due("order of the difference", x.order(2), same);
        }
    }

    private static void powersToOne() {
        Ledger.sentence("powers that come to one,");
        for (int prime : new int[] {2, 3, 5, 7, 31}) {
            for (int length = 1; length <= 9; length++) {
                SeriesDesk x = holding("sm12p" + prime, drawn(prime, length, 0));
                int least = 0;
                for (int n = 1; n <= 99 && least == 0; n++) {
                    Texts.tell(x, "b=a^" + n + "-1");
                    least = x.step() > 0 && x.order(1) == length ? n : 0;
                    if (n % 99 == 0 && least == 0) {
                        least = NONE;
                    }
                }
                Ledger.due("one(0)", x.one(0), least);
            }
        }
    }

    private static void values() {
        Ledger.sentence("values;");
        for (int prime : new int[] {2, 3, 7, 101, 997}) {
            SeriesDesk x = Ledger.desk("sm24p" + prime);
            for (int register = 0; register < 2; register++) {
                int[] row = drawn(prime, 6, 0);
                Ledger.does(x, (char) ('a' + register) + "=" + told(row).substring(2));
            }
            Ledger.does(x, "c=a*b");
            for (int n = 0; n <= 996; n += 83) {
                Ledger.due("value(2, " + n + ")", x.value(2, n), x.value(0, n) * x.value(1, n) % prime);
            }
        }
    }

    private static void firstReasons() {
        Ledger.sentence("what can't be is told by its first reason;");
        SeriesDesk x = Ledger.desk("sp7m8", "a=1");
        String[] each = {"h", null, "1/x", "S(x^6)", "Q2(3)", "D(T1(a))"};
        String[] joined = {"+", "-", "*", "/"};
        for (int first = 0; first < each.length; first++) {
            for (int other = 0; other < each.length; other++) {
                if (each[first] != null && each[other] != null) {
                    Ledger.reason(x, each[first] + joined[(first + other) % 4] + each[other], first);
                    Ledger.reason(x, "C(" + each[first] + "," + each[other] + ")", first);
                    Ledger.reason(x, "H(a,(" + each[first] + ")^2," + each[other] + ")", first);
                    Ledger.reason(x, "D(" + each[first] + ")/" + each[other], first);
                }
            }
        }
    }

    private static void texts() {
        Ledger.sentence("rings and scripts told as texts;");
        SeriesDesk x = new SeriesDesk();
        Ledger.script(x, "a=1+x;b=a*a", 0);
        Texts.tell(x, "sp5m3");
        Ledger.due("text(0)", x.text(0), 5);
        Ledger.due("perform(0)", x.perform(0), 2);
        Ledger.row(x, 0, 1, 1, 0);
        Ledger.row(x, 1, 1, 2, 1);
    }

    /** Drawn acts, each undone: all is as it was ahead of it. */
    private static void actsUndone() {
        Ledger.sentence("draws, a log, a status of what was refused, acts undone; images.");
        for (int round = 0; round < 8; round++) {
            SeriesDesk x = Ledger.desk("sp7m6", "a=1+x", "d=T3(2+x^2)", "e=x", "h=3");
            List<List<Integer>> ahead = new ArrayList<>();
            long seed = RANDOM.nextLong();
            for (int act = 0; ahead.size() < 6 && act < 14; act++) {
                List<Integer> seen = seen(x);
                int acts = x.count(4);
                x.years(1, seed + act);
                if (x.count(4) > acts) {
                    ahead.add(seen);
                }
            }
            Ledger.due("acts that could be", ahead.size(), 6);
            Ledger.due("image()", x.image(), x.count(0));
            List<Integer> kept = seen(x);
            Ledger.due("a cut that is refused", x.cut(0, 0), NONE);
            Ledger.due("status in all", x.status(0) + x.status(1), 1);
            for (int i = ahead.size() - 1; i >= 0; i--) {
                Ledger.due("undo()", x.undo(), i + 4);
                Ledger.due("all is as it was", seen(x).equals(ahead.get(i)), true);
            }
            x.back();
            Ledger.due("all is as it was kept", seen(x).equals(kept), true);
        }
    }

    private static List<Integer> seen(SeriesDesk x) {
        List<Integer> seen = new ArrayList<>();
        for (int register = 0; register < ROWS; register++) {
            seen.add(x.known(register));
            seen.add(x.value(register, 3));
        }
        seen.add(x.count(3));
        seen.add(x.log(0, 1));
        return seen;
    }

    /** Each line of the document's face stands in the source as it is, a body behind it. */
    private static void face() throws Exception {
        String document = Files.readString(Path.of("../shared/DOC.md"), StandardCharsets.ISO_8859_1);
        String source = Files.readString(Path.of("src/main/java/SeriesDesk.java"), StandardCharsets.ISO_8859_1);
        int from = document.indexOf("```java\n") + 8;
        int declared = 0;
        for (String line : document.substring(from, document.indexOf("```", from)).split("\n")) {
            if (line.trim().length() < 2) {
                continue;
            }
            Ledger.sentence(line.trim());
            String wanted = line.endsWith(");") || line.endsWith("Exception;") && line.contains("(")
                ? line.substring(0, line.length() - 1) + " {" : line;
            Ledger.due("stands in the source", source.contains("\n" + wanted + "\n"), true);
            declared += line.startsWith("    public ") ? 1 : 0;
        }
        Ledger.due("public members in the source", source.split("\n    public ").length - 1, declared);
    }
}
