import java.util.ArrayList;
import java.util.List;
import java.util.NoSuchElementException;
import java.util.Random;

/** Seeded runs of calls, ordinary and wrong ones, held against the Model. */
public final class FuzzTest {
    private static final int[] PRIMES = {2, 2, 3, 3, 5, 5, 7, 7, 11, 13, 17, 19, 23, 29, 31, 97, 101, 499, 997};
    private static final int[] ODD = {Integer.MIN_VALUE, -1000000, -2, -1, 8, 9, 24, 25, 320, 997, Integer.MAX_VALUE};

    private final Random random;
    private final Expressions expressions;
    private final SeriesDesk desk = new SeriesDesk();
    private final Model model = new Model();
    private final List<String> calls = new ArrayList<>();
    private boolean wrong;
    private int made;

    private FuzzTest(long seed) {
        random = new Random(seed);
        expressions = new Expressions(random);
    }

    public static void main(String[] args) {
        int runs = args.length > 0 ? Integer.parseInt(args[0]) : 1500;
        int wrongRuns = 0;
        for (int seed = 1; seed <= runs && wrongRuns < 3; seed++) {
            FuzzTest test = new FuzzTest(seed);
            test.run(seed);
            if (test.wrong) {
                wrongRuns++;
                System.out.println("seed " + seed + ":");
                int from = Math.max(0, test.calls.size() - 12);
                for (String call : test.calls.subList(from, test.calls.size())) {
                    System.out.println("  " + call);
                }
            }
        }
        System.out.println(wrongRuns == 0 ? runs + " runs are as the model has them" : wrongRuns + " runs are not as due");
        if (wrongRuns != 0) {
            System.exit(1);
        }
    }

    private void run(int seed) {
        if (random.nextInt(8) == 0) {
            for (int i = random.nextInt(10); i > 0; i--) {
                call();
            }
        }
        if (random.nextInt(20) != 0) {
            ring();
        }
        while (made < 500 && !wrong) {
            call();
        }
    }

    private int below(int n) {
        return random.nextInt(n);
    }

    private void due(String call, long got, long want) {
        made++;
        calls.add(call + " answered " + got + (got == want ? "" : ", due is " + want));
        wrong |= got != want;
    }

    private void tell(String text) {
        due("end(0)", desk.end(0) ? 1 : 0, model.end(0) ? 1 : 0);
        for (int[] five : Texts.numbersOf(text)) {
            due("feed " + text, desk.feed(five[0], five[1], five[2], five[3], five[4]),
                model.feed(five[0], five[1], five[2], five[3], five[4]));
        }
    }

    private void ring() {
        tell(ringText());
        due("fault(0)", desk.fault(0), model.fault(0));
        due("text(0)", desk.text(0), model.text(0));
    }

    private String ringText() {
        StringBuilder s = new StringBuilder("s");
        String p = "p" + PRIMES[below(PRIMES.length)];
        String m = "m" + (2 + below(23));
        boolean first = random.nextBoolean();
        s.append(below(8) == 0 ? "" : first ? p : m).append(below(8) == 0 ? "" : first ? m : p);
        return below(5) == 0 ? spoiled(s.toString()) : s.toString();
    }

    private String spoiled(String s) {
        StringBuilder b = new StringBuilder(s);
        for (int n = 1 + below(2); n > 0; n--) {
            int at = below(b.length() + 1);
            String signs = "  ()+-*/^,;=0123456789abhxDSLERQTCHspm!" + (char) 200;
            char sign = signs.charAt(below(signs.length()));
            int how = below(4);
            if (how == 0 && at < b.length()) {
                b.deleteCharAt(at);
            } else if (how == 1 && at < b.length()) {
                b.setCharAt(at, sign);
            } else if (how == 2 && b.length() > 1) {
                b.setLength(at);
            } else {
                b.insert(at, sign);
            }
        }
        return b.toString();
    }

    private String oneStep() {
        int sort = below(24);
        String told = sort == 0 ? expressions.row(22 + below(5), "+")
            : sort == 1 ? "H(" + expressions.row(1 + below(7), ",") + ")"
            : sort == 2 ? "(".repeat(6 + below(4)) + "x" + ")".repeat(6 + below(4)) : expressions.any(below(4));
        return expressions.register() + "=" + told;
    }

    private String script(int steps) {
        StringBuilder s = new StringBuilder(oneStep());
        for (int i = 1; i < steps; i++) {
            s.append(';').append(oneStep());
        }
        return s.toString();
    }

    private int place() {
        return below(12) == 0 ? ODD[below(ODD.length)] : below(5) == 0 ? -1 : below(3) == 0 ? below(24) : below(6);
    }

    private int some() {
        return below(10) == 0 ? ODD[below(ODD.length)] : below(3) == 0 ? below(8) : below(4);
    }

    private int orNone() {
        return below(3) == 0 ? -1 : some();
    }

    private int what(int n) {
        return below(15) == 0 ? ODD[below(ODD.length)] : below(n);
    }

    private void call() {
        int sort = below(40);
        if (sort < 12) {
            stepCalls();
        } else if (sort < 16) {
            scriptCalls();
        } else if (sort < 24) {
            actCalls();
        } else if (sort < 34) {
            tellingCalls();
        } else {
            otherCalls();
        }
    }

    private void stepCalls() {
        String told = oneStep();
        tell(below(4) == 0 ? spoiled(told) : told);
        due("fault(2)", desk.fault(2), model.fault(2));
        due("why()", desk.why(), model.why());
        due("would(-1)", desk.would(-1), model.would(-1));
        int i = place();
        due("would(" + i + ")", desk.would(i), model.would(i));
        due("step()", desk.step(), model.step());
        due("count(2)", desk.count(2), model.count(2));
        coefficients();
    }

    private void coefficients() {
        for (int r = 0; r < 8; r++) {
            for (int i = 0; i < 24; i++) {
                long got = coefficientOf(r, i);
                long want = modelCoefficientOf(r, i);
                if (got != want) {
                    due("coefficient(" + r + ", " + i + ")", got, want);
                }
            }
        }
    }

    private long coefficientOf(int r, int i) {
        try {
            return desk.coefficient(r, i);
        } catch (NoSuchElementException e) {
            return -7;
        }
    }

    private long modelCoefficientOf(int r, int i) {
        try {
            return model.coefficient(r, i);
        } catch (NoSuchElementException e) {
            return -7;
        }
    }

    private void scriptCalls() {
        if (below(4) == 0) {
            String told = script(below(6) == 0 ? 7 + below(3) : 1 + below(4));
            tell(below(4) == 0 ? spoiled(told) : told);
            due("fault(1)", desk.fault(1), model.fault(1));
            if (below(3) == 0) {
                due("text(1)", desk.text(1), model.text(1));
            }
        }
        int script = what(4);
        int i = below(3) == 0 ? -1 : what(8);
        due("target(" + script + ", " + i + ")", desk.target(script, i), model.target(script, i));
        int what = what(3);
        due("run(" + script + ", " + what + ")", desk.run(script, what), model.run(script, what));
        if (below(2) == 0) {
            due("perform(" + script + ")", desk.perform(script), model.perform(script));
            coefficients();
        }
    }

    private void actCalls() {
        int r = some();
        int n = place();
        switch (below(8)) {
            case 0:
            case 1:
                due("cut(" + r + ", " + n + ")", desk.cut(r, n), model.cut(r, n));
                break;
            case 2:
                due("drop(" + r + ")", desk.drop(r), model.drop(r));
                break;
            case 3:
                int other = some();
                due("swap(" + r + ", " + other + ")", desk.swap(r, other), model.swap(r, other));
                break;
            case 4:
            case 5:
                for (int times = below(20) == 0 ? 41 : 1 + below(5); times > 0; times--) {
                    due("undo()", desk.undo(), model.undo());
                }
                break;
            case 6:
                long seed = random.nextLong();
                int years = below(10) == 0 ? ODD[below(ODD.length)] : below(42);
                due("years(" + years + ", " + seed + ")", desk.years(years, seed), model.years(years, seed));
                break;
            default:
                if (below(2) == 0) {
                    due("image()", desk.image(), model.image());
                } else {
                    due("back()", desk.back(), model.back());
                }
                break;
        }
        coefficients();
    }

    private void tellingCalls() {
        int r = some();
        int o = some();
        int i = place();
        int k = what(5);
        due("known(" + r + ")", desk.known(r), model.known(r));
        due("order(" + r + ")", desk.order(r), model.order(r));
        due("coefficient(" + r + ", " + i + ")", coefficientOf(r, i), modelCoefficientOf(r, i));
        due("alike(" + r + ", " + o + ")", desk.alike(r, o), model.alike(r, o));
        due("value(" + r + ", " + i + ")", desk.value(r, i), model.value(r, i));
        due("newton(" + r + ", " + k + ", " + i + ")", desk.newton(r, k, i), model.newton(r, k, i));
        int least = desk.starts(r, o, -1, -1, 1);
        int[] f = {orNone(), orNone(), orNone(), orNone()};
        due("starts", desk.starts(f[0], f[1], f[2], f[3], 0), model.starts(f[0], f[1], f[2], f[3], 0));
        due("starts", desk.starts(f[0], f[1], f[2], f[3], 1), model.starts(f[0], f[1], f[2], f[3], 1));
        int start = below(3) == 0 ? place() : Math.max(-1, desk.starts(f[0], f[1], f[2], f[3], 1));
        due("solve", desk.solve(f[0], f[1], f[2], f[3], start, i), model.solve(f[0], f[1], f[2], f[3], start, i));
        due("solve", desk.solve(r, o, -1, -1, least, i), model.solve(r, o, -1, -1, least, i));
        for (int j = -1; j < 4; j++) {
            due("recur(" + r + ", " + j + ")", desk.recur(r, j), model.recur(r, j));
        }
        due("recur(" + r + ", " + i + ")", desk.recur(r, i), model.recur(r, i));
        due("one(" + r + ")", desk.one(r), model.one(r));
        due("sums(" + r + ", " + i + ")", desk.sums(r, i), model.sums(r, i));
    }

    private void otherCalls() {
        int what = what(7);
        int i = below(3) == 0 ? below(62) : place();
        due("most(" + what + ")", desk.most(what), model.most(what));
        due("count(" + what + ")", desk.count(what), model.count(what));
        due("status(" + what + ")", desk.status(what), model.status(what));
        due("rule(" + what + ")", desk.rule(what), model.rule(what));
        due("log(" + i + ", " + what + ")", desk.log(i, what), model.log(i, what));
        due("log(0, " + what + ")", desk.log(0, what), model.log(0, what));
        int sort = what(3);
        due("fault(" + sort + ")", desk.fault(sort), model.fault(sort));
        if (below(30) == 0) {
            due("text(" + sort + ")", desk.text(sort), model.text(sort));
        }
        if (below(30) == 0) {
            ring();
        }
        if (below(6) == 0) {
            due("end(" + i + ")", desk.end(i) ? 1 : 0, model.end(i) ? 1 : 0);
        }
        if (below(6) == 0) {
            int[] n = {random.nextInt(), random.nextInt() & 0xff00ff, 0, below(256) << 24, below(256)};
            due("feed", desk.feed(n[0], n[1], n[2], n[3], n[4]), model.feed(n[0], n[1], n[2], n[3], n[4]));
        }
    }
}
