import java.math.BigInteger;
import java.util.ArrayList;
import java.util.List;

/** Sentences of the document on ACTS: what is DONE, UNDONE, logged, drawn, kept in an IMAGE. */
final class ActBounds {
    private static final int NONE = Ledger.NONE;
    private static final int HIDDEN = Ledger.HIDDEN;
    private static final BigInteger FACTOR = new BigInteger("6364136223846793005");
    private static final BigInteger MORE = new BigInteger("1442695040888963407");
    private static final BigInteger ROUND = BigInteger.ONE.shiftLeft(64);

    private static BigInteger drawn = BigInteger.ZERO;

    private ActBounds() {
    }

    static void all() {
        Ledger.section("Terms");
        acts();
        undone();
        status();
        log();
        years();
        draws();
        images();
        constants();
    }

    private static void acts() {
        Ledger.sentence("By hand: a STEP on the TAPE is DONE (its REGISTER has the SERIES then), a REGISTER is CUT to n, "
            + "DROPPED (empty), two CHANGE places, all of a SCRIPT is DONE as one ACT.");
        SeriesDesk x = Ledger.desk("sp7m4", "a=3+x", "b=T2(5)");
        Ledger.row(x, 0, 3, 1, 0, 0);
        Ledger.does(x, "a=a*a");
        Ledger.row(x, 0, 2, 6, 1, 0);
        Ledger.due("cut(0, 3)", x.cut(0, 3), 4);
        Ledger.row(x, 0, 2, 6, 1);
        Ledger.due("swap(0, 1)", x.swap(0, 1), 2);
        Ledger.row(x, 0, 5, 0);
        Ledger.row(x, 1, 2, 6, 1);
        Ledger.due("drop(1)", x.drop(1), 3);
        Ledger.row(x, 1);
        Ledger.script(x, "b=a+1;a=b*2;b=b+a", 0);
        Ledger.due("count(4)", x.count(4), 6);
        Ledger.due("perform(0)", x.perform(0), 3);
        Ledger.row(x, 0, 5, 0);
        Ledger.row(x, 1, 4, 0);
        Ledger.due("count(4)", x.count(4), 7);
        Ledger.due("undo()", x.undo(), 6);
        Ledger.row(x, 0, 5, 0);
        Ledger.row(x, 1);
    }

    /** Six acts of all sorts, over and over: how many can be undone, and what is there behind each one. */
    private static void undone() {
        Ledger.sentence("All these are ACTS: the latest 40 can be UNDONE one by one (the LOG, too).");
        for (int number : new int[] {0, 1, 39, 40, 41, 45, 61}) {
            undone(number);
        }
        SeriesDesk x = Ledger.desk("sp7m2");
        for (int i = 0; i < 130; i++) {
            Ledger.does(x, "a=" + i);
        }
        Ledger.due("count(4) behind 130 acts", x.count(4), 40);
        for (int i = 0; i < 40; i++) {
            Ledger.due("undo()", x.undo(), 39 - i);
        }
        Ledger.due("coefficient(0, 0)", x.coefficient(0, 0), 89 % 7);
        Ledger.due("undo()", x.undo(), NONE);
        Ledger.due("coefficient(0, 0)", x.coefficient(0, 0), 89 % 7);
    }

    private static void undone(int number) {
        SeriesDesk x = Ledger.desk("sp7m3");
        Ledger.script(x, "b=a+x;c=b", 0);
        List<List<Integer>> seen = new ArrayList<>();
        for (int i = 0; i < number; i++) {
            seen.add(brief(x));
            act(x, i);
        }
        int left = Math.min(number, 40);
        Ledger.due("count(4) behind " + number, x.count(4), left);
        for (int i = 1; i <= left; i++) {
            Ledger.due("undo() behind " + number, x.undo(), left - i);
            Ledger.due("as it was ahead of the act", brief(x).equals(seen.get(number - i)), true);
        }
        Ledger.due("undo() behind " + number, x.undo(), NONE);
        Ledger.due("count(4) behind " + number, x.count(4), 0);
    }

    private static void act(SeriesDesk x, int i) {
        switch (i % 5) {
            case 0:
                Texts.tell(x, "a=" + i + "+x");
                Ledger.due("step()", x.step(), 3);
                break;
            case 1:
                Ledger.due("cut(0, 2)", x.cut(0, 2), 3);
                break;
            case 2:
                Ledger.due("perform(0)", x.perform(0), 2);
                break;
            case 3:
                Ledger.due("swap(0, 7)", x.swap(0, 7), i > 5 ? 2 : 0);
                break;
            default:
                Ledger.due("drop(1)", x.drop(1), 2);
                break;
        }
    }

    private static List<Integer> brief(SeriesDesk x) {
        return List.of(x.count(3), x.most(3), x.value(0, 6));
    }

    private static void status() {
        Ledger.sentence("STATUS: how many ACTS were refused by each REASON;");
        SeriesDesk x = Ledger.desk("sp7m9", "a=1+x", "b=T1(3)");
        Ledger.script(x, "c=Q2(3)", 0);
        Ledger.script(x, "c=a;d=e", 1);
        Ledger.script(x, "c=a;d=S(x^6)", 2);
        Ledger.script(x, "c=1/x", 3);
        Ledger.status(x, 0, 0, 0, 0, 0, 0);
        int[] want = new int[6];
        String[] steps = {"a=h", "a=1+", "a=1/0", "a=S(x^6)", "a=Q2(3)", "a=D(b)"};
        for (int round = 0; round < 2; round++) {
            for (int why = 0; why < 6; why++) {
                Texts.tell(x, steps[why]);
                Ledger.due("step() of " + steps[why], x.step(), NONE);
                want[why]++;
                Ledger.status(x, want);
            }
        }
        for (int script = 0; script < 4; script++) {
            Ledger.due("perform(" + script + ")", x.perform(script), NONE);
        }
        Ledger.status(x, 3, 2, 3, 3, 3, 2);
        Ledger.due("drop(7)", x.drop(7), NONE);
        Ledger.due("cut(7, 1)", x.cut(7, 1), NONE);
        Ledger.due("cut(0, 0)", x.cut(0, 0), NONE);
        Ledger.due("swap(6, 7)", x.swap(6, 7), NONE);
        Ledger.due("perform(4)", x.perform(4), NONE);
        Ledger.status(x, 7, 3, 3, 3, 3, 2);
        // No act: what is asked, texts, years, undoing, images.
        Texts.tell(x, "a=h");
        int asked = x.why() + x.would(0) + x.known(8) + x.order(8) + x.text(2) + x.years(0, 1) + x.years(41, 1) + x.alike(0, 7)
            + x.value(8, 0) + x.run(0, 0) + x.run(9, 9) + x.rule(7) + x.newton(7, 0, 0) + x.text(1) + x.text(0);
        Ledger.due("answers", asked != 0, true);
        Ledger.due("undo()", x.undo(), 1);
        Ledger.due("back()", x.back(), NONE);
        Ledger.status(x, 7, 3, 3, 3, 3, 2);
        Texts.tell(x, "s");
        Ledger.due("text(0)", x.text(0), 7);
        Ledger.status(x, 7, 3, 3, 3, 3, 2);
        Ledger.sentence("of a CUT to no less than it is, a CHANGE of one with itself: 2.");
        SeriesDesk y = Ledger.desk("sp7m9", "a=T5(1+x)");
        int[] two = {0, 0, 0, 0, 0, 0};
        for (int n : new int[] {5, 6, 24, 25, Ledger.HIGH}) {
            Ledger.due("cut(0, " + n + ")", y.cut(0, n), NONE);
            two[2]++;
            Ledger.status(y, two);
        }
        Ledger.due("swap(0, 0)", y.swap(0, 0), NONE);
        two[2]++;
        Ledger.status(y, two);
        Ledger.due("count(4)", y.count(4), 1);
        Ledger.due("cut(0, 4)", y.cut(0, 4), 5);
        Ledger.status(y, two);
    }

    private static void log() {
        Ledger.sentence("The LOG: of each STEP DONE (0), CUT (1), DROPPED (2), CHANGED (3) the sort, the REGISTER (of two "
            + "the first told), its LENGTH then (of two: the first one's; empty: 0): the latest 60.");
        SeriesDesk x = Ledger.desk("sp7m9", "c=T5(1+x)");
        Ledger.logged(x, 0, 0, 2, 5);
        x.cut(2, 3);
        Ledger.logged(x, 0, 1, 2, 3);
        Ledger.does(x, "f=T7(x)");
        x.swap(5, 2);
        Ledger.logged(x, 0, 3, 5, 3);
        x.swap(5, 2);
        Ledger.logged(x, 0, 3, 5, 7);
        x.swap(7, 5);
        Ledger.logged(x, 0, 3, 7, 7);
        x.swap(7, 5);
        Ledger.logged(x, 0, 3, 7, 0);
        x.drop(2);
        Ledger.logged(x, 0, 2, 2, 0);
        Ledger.script(x, "g=1;h=T2(g)", 0);
        x.perform(0);
        Ledger.logged(x, 0, 0, 7, 2);
        Ledger.logged(x, 1, 0, 6, 9);
        Ledger.logged(x, 2, 2, 2, 0);
        Ledger.due("count(3)", x.count(3), 10);
        Ledger.logged(x, 9, 0, 2, 5);
        Ledger.logged(x, 10, HIDDEN, HIDDEN, HIDDEN);
        for (int number : new int[] {0, 1, 59, 60, 61, 119, 121}) {
            logged(number);
        }
        loggedByScripts();
    }

    private static void logged(int number) {
        SeriesDesk x = Ledger.desk("sp7m12");
        for (int i = 0; i < number; i++) {
            Texts.tell(x, (char) ('a' + i % 8) + "=T" + (1 + i % 12) + "(x)");
            x.step();
        }
        int left = Math.min(number, 60);
        Ledger.due("count(3)", x.count(3), left);
        for (int i : new int[] {0, 1, 29, 57, 58, 59, 60, 61}) {
            if (i < left) {
                Ledger.logged(x, i, 0, (number - 1 - i) % 8, 1 + (number - 1 - i) % 12);
            } else {
                Ledger.logged(x, i, HIDDEN, HIDDEN, HIDDEN);
            }
        }
    }

    /** Eight at once, and one undoing that brings back what they had made the LOG lose. */
    private static void loggedByScripts() {
        SeriesDesk x = Ledger.desk("sp7m12");
        Ledger.script(x, "a=T1(x);b=T2(x);c=T3(x);d=T4(x);e=T5(x);f=T6(x);g=T7(x);h=T8(x)", 0);
        for (int i = 0; i < 9; i++) {
            Ledger.due("perform(0)", x.perform(0), 8);
            Ledger.due("count(3)", x.count(3), Math.min(60, 8 * (i + 1)));
        }
        Ledger.logged(x, 0, 0, 7, 8);
        Ledger.logged(x, 59, 0, 4, 5);
        Ledger.due("undo()", x.undo(), 8);
        Ledger.due("count(3)", x.count(3), 60);
        Ledger.due("undo()", x.undo(), 7);
        Ledger.due("count(3)", x.count(3), 56);
        Ledger.logged(x, 55, 0, 0, 1);
        Ledger.logged(x, 56, HIDDEN, HIDDEN, HIDDEN);
    }

    // ---- draws, told once more by numbers without a bound

    private static int draw(int j) {
        drawn = drawn.multiply(FACTOR).add(MORE).mod(ROUND);
        return drawn.shiftRight(33).mod(BigInteger.valueOf(j)).intValue();
    }

    private static String letter(int register) {
        return String.valueOf((char) ('a' + register));
    }

    /** The STEP that a year's draws tell. */
    private static String drawnStep(int prime, int most) {
        String register = letter(draw(8));
        int sort = draw(6);
        int first = draw(sort == 0 ? prime : 8);
        switch (sort) {
            case 0:
                return register + "=" + first + "+" + draw(prime) + "*x";
            case 1:
                return register + "=" + letter(first) + "+" + letter(draw(8));
            case 2:
                return register + "=" + letter(first) + "*" + letter(draw(8));
            case 3:
                return register + "=D(" + letter(first) + ")";
            case 4:
                return register + "=1/" + letter(first);
            default:
                return register + "=T" + (draw(most) + 1) + "(" + letter(first) + ")";
        }
    }

    /** Years of one object, the same STEPS told to another one: all is alike but STATUS. */
    private static int[] years(int n, long seed, int prime, int most, String... ahead) {
        String ring = "sp" + prime + "m" + most;
        SeriesDesk x = Ledger.desk(ring, ahead);
        SeriesDesk y = Ledger.desk(ring, ahead);
        drawn = BigInteger.valueOf(seed).mod(ROUND);
        int[] sorts = new int[2];
        for (int year = 0; year < n; year++) {
            Texts.tell(y, drawnStep(prime, most));
            sorts[y.step() > 0 ? 0 : 1]++;
        }
        Texts.tell(y, "");
        Texts.tell(x, "");
        Ledger.due("years(" + n + ", " + seed + ")", x.years(n, seed), y.count(0));
        Ledger.due("registers", x.count(0), y.count(0));
        Ledger.status(x, 0, 0, 0, 0, 0, 0);
        Ledger.same("years(" + n + ", " + seed + ")", x, y);
        return sorts;
    }

    private static void years() {
        Ledger.sentence("YEARS by a seed: n (1 .. 40) times: a draw of 8 (the REGISTER), of 6:");
        for (int n : new int[] {1, 2, 3, 10, 39, 40}) {
            years(n, 99L + n, 7, 4, "a=1+x", "d=T2(x)");
        }
        SeriesDesk x = Ledger.desk("sp7m4");
        for (int n : new int[] {0, -1, 41, Ledger.LOW, Ledger.HIGH}) {
            Ledger.due("years(" + n + ", 5)", x.years(n, 5), NONE);
        }
        Ledger.due("count(3)", x.count(3), 0);
        Ledger.sentence("0: a draw of PRIME, of PRIME: the first number and the other times x;");
        Ledger.row(year("sp7m3", 8, 2, 6, 0, 7, 5, 7, 6), 2, 5, 6, 0);
        Ledger.row(year("sp7m3", 8, 7, 6, 0, 7, 0, 7, 0), 7, 0, 0, 0);
        Ledger.row(year("sp2m3", 8, 0, 6, 0, 2, 1, 2, 1), 0, 1, 1, 0);
        Ledger.row(year("sp13m2", 8, 0, 6, 0, 13, 12, 13, 11), 0, 12, 11);
        Ledger.sentence("1: two draws of 8: the one REGISTER and the other one;");
        Ledger.row(year("sp7m3", 8, 2, 6, 1, 8, 0, 8, 1), 2, 4, 6);
        Ledger.row(year("sp7m3", 8, 0, 6, 1, 8, 0, 8, 0), 0, 4, 2, 0);
        Ledger.row(year("sp7m3", 8, 2, 6, 1, 8, 0, 8, 4), 2);
        Ledger.row(year("sp7m3", 8, 2, 6, 1, 8, 4, 8, 0), 2);
        Ledger.sentence("2: likewise, times;");
        Ledger.row(year("sp7m3", 8, 2, 6, 2, 8, 0, 8, 1), 2, 4, 5);
        Ledger.row(year("sp7m3", 8, 1, 6, 2, 8, 0, 8, 0), 1, 4, 4, 1);
        Ledger.row(year("sp7m3", 8, 2, 6, 2, 8, 4, 8, 0), 2);
        Ledger.sentence("3: a draw of 8: its D;");
        Ledger.row(year("sp7m3", 8, 2, 6, 3, 8, 0), 2, 1, 0);
        Ledger.row(year("sp7m3", 8, 1, 6, 3, 8, 1), 1, 5);
        Ledger.row(year("sp7m3", 8, 2, 6, 3, 8, 3), 2);
        Ledger.sentence("4: a draw of 8: 1 by it;");
        Ledger.row(year("sp7m3", 8, 2, 6, 4, 8, 0), 2, 4, 5, 1);
        Ledger.row(year("sp7m3", 8, 2, 6, 4, 8, 3), 2, 2);
        Ledger.row(year("sp7m3", 8, 2, 6, 4, 8, 5), 2);
        Ledger.sentence("5: a draw of 8, of MOST and 1 added: it is T of so many: the REGISTER has that.");
        Ledger.row(year("sp7m3", 8, 2, 6, 5, 8, 0, 3, 0), 2, 2);
        Ledger.row(year("sp7m3", 8, 2, 6, 5, 8, 0, 3, 1), 2, 2, 1);
        Ledger.row(year("sp7m3", 8, 2, 6, 5, 8, 0, 3, 2), 2, 2, 1, 0);
        Ledger.row(year("sp7m3", 8, 2, 6, 5, 8, 1, 3, 2), 2, 2, 5);
        Ledger.row(year("sp7m3", 8, 0, 6, 5, 8, 0, 3, 0), 0, 2);
        Ledger.sentence("Each is a STEP; what can't be is left (no STATUS).");
        eachIsAStep();
    }

    /** One year by a seed with these draws: a has 2 + x, b T2(2 + 5 x), d T1(4), f x. */
    private static SeriesDesk year(String ring, int... draws) {
        SeriesDesk x = Ledger.desk(ring, "a=2+x", "b=T2(2+5*x)", "d=T1(4)", "f=x");
        x.years(1, seedOf(draws));
        return x;
    }

    private static long seedOf(int... draws) {
        for (long seed = 0; seed < 10000000L; seed++) {
            long x = seed;
            int i = 0;
            while (i < draws.length) {
                x = x * 6364136223846793005L + 1442695040888963407L;
                if ((x >>> 33) % draws[i] != draws[i + 1]) {
                    break;
                }
                i += 2;
            }
            if (i >= draws.length) {
                return seed;
            }
        }
        throw new IllegalStateException("no such seed");
    }

    private static void eachIsAStep() {
        int done = 0;
        int left = 0;
        for (long seed = 1; seed <= 12; seed++) {
            int[] sorts = years(40, seed * 7919, 5, 5, "b=3+x", "e=T2(1)");
            done += sorts[0];
            left += sorts[1];
        }
        Ledger.due("STEPS that can be were among them", done > 40, true);
        Ledger.due("STEPS that can't be were among them", left > 40, true);
        // More years than acts can be undone, more notes than the LOG holds.
        SeriesDesk x = Ledger.desk("sp7m6", "a=1", "b=1", "c=1", "d=1", "e=1", "f=1", "g=1", "h=1");
        for (int i = 0; i < 4; i++) {
            Ledger.due("years(40)", x.years(40, i), 8);
        }
        Ledger.due("count(3)", x.count(3), 60);
        Ledger.due("count(4)", x.count(4), 40);
        Ledger.status(x, 0, 0, 0, 0, 0, 0);
    }

    private static void draws() {
        Ledger.sentence("x, at first the seed, becomes x times 6364136223846793005 and 1442695040888963407 (64 bits, going "
            + "round);");
        long[] seeds = {0, 1, -1, 2, -2, Long.MAX_VALUE, Long.MIN_VALUE, Long.MAX_VALUE - 1, Long.MIN_VALUE + 1,
            1L << 32, 1L << 33, -1L << 33, 0x7fffffffL, 0x80000000L, 6364136223846793005L, -1442695040888963407L};
        for (long seed : seeds) {
            years(40, seed, 11, 4, "a=1+x", "d=T2(x)");
            years(5, seed, 11, 4);
        }
        SeriesDesk x = Ledger.desk("sp7m4", "a=1");
        SeriesDesk y = Ledger.desk("sp7m4", "a=1");
        for (long seed : new long[] {77, 77, 78, 77}) {
            x.years(6, seed);
            drawn = BigInteger.valueOf(seed);
            for (int year = 0; year < 6; year++) {
                Texts.tell(y, drawnStep(7, 4));
                y.step();
            }
        }
        Texts.tell(y, "");
        Ledger.same("each call begins with its own seed", x, y);
        Ledger.sentence("a draw of j: (x shifted right by 33, without sign) modulo j.");
        // Behind this seed x is all ones, then its 31 bits above the 33rd are 2147483647: of 8 that is 7.
        BigInteger all = ROUND.subtract(BigInteger.ONE);
        long seed = all.subtract(MORE).multiply(FACTOR.modInverse(ROUND)).mod(ROUND).longValue();
        drawn = BigInteger.valueOf(seed).mod(ROUND);
        Ledger.due("the first draw of 8", draw(8), 2147483647 % 8);
        for (int prime : new int[] {2, 3, 7, 499, 997}) {
            years(40, seed, prime, 3);
            years(40, seed - 1, prime, 9, "c=x");
        }
    }

    private static void images() {
        Ledger.sentence("An IMAGE keeps REGISTERS, the LOG;");
        SeriesDesk x = Ledger.desk("sp7m4", "a=1+2*x", "h=T2(3)");
        Ledger.due("image()", x.image(), 2);
        List<Integer> kept = withoutActs(x);
        Ledger.does(x, "a=5");
        x.drop(7);
        Ledger.does(x, "c=x");
        Ledger.due("back()", x.back(), 2);
        Ledger.due("all is so again", withoutActs(x).equals(kept), true);
        Ledger.row(x, 0, 1, 2, 0, 0);
        Ledger.row(x, 7, 3, 0);
        Ledger.row(x, 2);
        Ledger.due("count(3)", x.count(3), 2);
        Ledger.logged(x, 0, 0, 7, 2);
        Ledger.sentence("BACK: they are so again (no ACT can be UNDONE then).");
        Ledger.due("count(4)", x.count(4), 0);
        Ledger.due("undo()", x.undo(), NONE);
        Ledger.does(x, "b=6");
        Ledger.due("undo()", x.undo(), 0);
        Ledger.due("undo()", x.undo(), NONE);
        Ledger.due("all is so again", withoutActs(x).equals(kept), true);
        x.drop(0);
        Ledger.due("back(), once more", x.back(), 2);
        Ledger.due("back(), at once", x.back(), 2);
        Ledger.due("all is so again", withoutActs(x).equals(kept), true);
        // The TAPE, SCRIPTS and STATUS are not of the image.
        Ledger.script(x, "a=1", 0);
        Texts.tell(x, "a=g");
        Ledger.due("step()", x.step(), NONE);
        Ledger.due("back()", x.back(), 2);
        Ledger.due("the TAPE", x.count(2), 3);
        Ledger.due("SCRIPTS", x.count(1), 1);
        Ledger.status(x, 1, 0, 0, 0, 0, 0);
        // An image of nothing empties the registers; a full log comes back whole.
        SeriesDesk y = Ledger.desk("sp7m4");
        Ledger.due("image()", y.image(), 0);
        Ledger.does(y, "a=1");
        Ledger.due("back()", y.back(), 0);
        Ledger.due("count(3)", y.count(3), 0);
        for (int i = 0; i < 65; i++) {
            Ledger.does(y, letter(i % 8) + "=x");
        }
        Ledger.due("image()", y.image(), 8);
        for (int i = 0; i < 5; i++) {
            y.drop(i);
        }
        Ledger.due("back()", y.back(), 8);
        Ledger.due("count(3)", y.count(3), 60);
        Ledger.logged(y, 0, 0, 0, 4);
        Ledger.logged(y, 59, 0, 5, 4);
    }

    private static List<Integer> withoutActs(SeriesDesk x) {
        List<Integer> seen = Ledger.portrait(x);
        seen.set(4, 0);
        seen.set(2, 0);
        return seen.subList(0, seen.size() - 18);
    }

    private static void constants() {
        Ledger.sentence("The constants:");
        Ledger.due("the public constants", SeriesDesk.class.getFields().length, 2);
        Ledger.sentence("None; refused; nothing known.");
        Ledger.due("NONE", SeriesDesk.NONE, -1);
        Ledger.due("refused", new SeriesDesk().drop(0), SeriesDesk.NONE);
        Ledger.due("nothing known", new SeriesDesk().known(0), SeriesDesk.NONE);
        Ledger.sentence("Not told.");
        Ledger.due("HIDDEN", SeriesDesk.HIDDEN, -1000000);
        Ledger.due("not told", new SeriesDesk().most(0), SeriesDesk.HIDDEN);
    }
}
