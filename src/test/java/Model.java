import java.util.ArrayDeque;
import java.util.ArrayList;
import java.util.Deque;
import java.util.List;
import java.util.NoSuchElementException;

/**
 * The document once more, as plainly and slowly as it can be said: texts are split instead of read on,
 * states are copied whole, numbers are found by trying them. FuzzTest holds the class against it.
 */
final class Model {
    static final class Refusal extends Exception {
        private static final long serialVersionUID = 1L;
        final int reason;

        Refusal(int reason) {
            super(null, null, false, false);
            this.reason = reason;
        }
    }

    private static final int NONE = -1;
    private static final int HIDDEN = -1000000;

    private String tape = "";
    private boolean ring;
    private int p;
    private int m;
    private List<int[]> registers = emptyRegisters();
    private List<int[]> log = new ArrayList<>();
    private final Deque<List<List<int[]>>> undo = new ArrayDeque<>();
    private List<List<int[]>> image;
    private final List<String> scripts = new ArrayList<>();
    private final int[] status = new int[6];
    private long x;

    private static List<int[]> emptyRegisters() {
        List<int[]> rows = new ArrayList<>();
        for (int i = 0; i < 8; i++) {
            rows.add(new int[0]);
        }
        return rows;
    }

    // ---- texts

    int feed(int a, int b, int c, int d, int e) {
        StringBuilder more = new StringBuilder(tape);
        for (int number : new int[] {a, b, c, d, e}) {
            for (int k = 3; k >= 0; k--) {
                int one = number >> 8 * k & 0xff;
                if (one != 0) {
                    more.append((char) one);
                }
            }
        }
        if (more.length() > 320) {
            return NONE;
        }
        tape = more.toString();
        return tape.length();
    }

    boolean end(int n) {
        if (n < 0 || n > tape.length()) {
            return false;
        }
        tape = tape.substring(0, n);
        return true;
    }

    int fault(int sort) {
        return sort == 0 ? ringFault(tape) : sort == 1 || sort == 2 ? new Automaton().fault(tape, sort == 1) : -2;
    }

    int text(int sort) {
        if (sort != 0 && sort != 1 || fault(sort) != NONE || sort == 1 && scripts.size() == 4) {
            return NONE;
        }
        String told = tape.replace(" ", "");
        tape = "";
        if (sort == 1) {
            scripts.add(told);
            return scripts.size() - 1;
        }
        ring = true;
        p = itemOf(told, 'p', 7);
        m = itemOf(told, 'm', 12);
        registers = emptyRegisters();
        log = new ArrayList<>();
        undo.clear();
        image = null;
        return p;
    }

    private static int itemOf(String told, char letter, int without) {
        int at = told.indexOf(letter);
        return at < 0 ? without : Integer.parseInt(told.substring(at + 1).split("[a-z]")[0]);
    }

    private static int ringFault(String s) {
        int i = blanks(s, 0);
        if (i == s.length() || s.charAt(i) != 's') {
            return i;
        }
        i = blanks(s, i + 1);
        String left = "pm";
        while (i < s.length()) {
            char letter = s.charAt(i);
            if (left.indexOf(letter) < 0) {
                return i;
            }
            left = left.replace(String.valueOf(letter), "");
            i = blanks(s, i + 1);
            int end = digitsEnd(s, i);
            if (end == i) {
                return i;
            }
            if (end - i > 3) {
                return i + 3;
            }
            int number = Integer.parseInt(s.substring(i, end));
            if (letter == 'm' ? number < 2 || number > 24 : !prime(number)) {
                return end - 1;
            }
            i = blanks(s, end);
        }
        return NONE;
    }

    private static boolean prime(int n) {
        int divisors = 0;
        for (int d = 1; d <= n; d++) {
            divisors += n % d == 0 ? 1 : 0;
        }
        return divisors == 2;
    }

    static int blanks(String s, int i) {
        while (i < s.length() && s.charAt(i) == ' ') {
            i++;
        }
        return i;
    }

    static int digitsEnd(String s, int i) {
        while (i < s.length() && s.charAt(i) >= '0' && s.charAt(i) <= '9') {
            i++;
        }
        return i;
    }

    /** A stack of open brackets and what may come next. */
    private static final class Automaton {
        private static final int LETTER = 0;
        private static final int EQUALS = 1;
        private static final int OPERAND = 2;
        private static final int BEHIND_ATOM = 3;
        private static final int BEHIND_POWER = 4;
        private static final int EXPONENT = 5;
        private static final int OPENING = 6;
        private static final int ROOT_DIGIT = 7;
        private static final int CUT_NUMBER = 8;

        private final Deque<int[]> open = new ArrayDeque<>();
        private int expects = LETTER;
        private int atoms;
        private int steps;
        private int kind;

        int fault(String s, boolean many) {
            int i = blanks(s, 0);
            while (i < s.length()) {
                char c = s.charAt(i);
                if (expects == EXPONENT || expects == CUT_NUMBER || expects == OPERAND && Character.isDigit(c)) {
                    if (expects == OPERAND && atoms == 24) {
                        return i;
                    }
                    int end = digitsEnd(s, i);
                    int low = expects == CUT_NUMBER ? 1 : 0;
                    int high = expects == CUT_NUMBER ? 24 : expects == EXPONENT ? 99 : 999;
                    if (end == i || end - i > 3) {
                        return end == i ? i : i + 3;
                    }
                    int number = Integer.parseInt(s.substring(i, end));
                    if (number < low || number > high) {
                        return end - 1;
                    }
                    atoms += expects == OPERAND ? 1 : 0;
                    expects = expects == OPERAND ? BEHIND_ATOM : expects == EXPONENT ? BEHIND_POWER : OPENING;
                    i = blanks(s, end);
                    continue;
                }
                if (!takes(c, many)) {
                    return i;
                }
                i = blanks(s, i + 1);
            }
            return open.isEmpty() && (expects == BEHIND_ATOM || expects == BEHIND_POWER) ? NONE : s.length();
        }

        private boolean takes(char c, boolean many) {
            switch (expects) {
                case LETTER:
                    expects = EQUALS;
                    atoms = 0;
                    steps++;
                    return "abcdefgh".indexOf(c) >= 0;
                case EQUALS:
                    expects = OPERAND;
                    return c == '=';
                case OPERAND:
                    return takesOperand(c);
                case OPENING:
                    expects = OPERAND;
                    open.push(new int[] {kind, 1});
                    return c == '(' && open.size() <= 8;
                case ROOT_DIGIT:
                    expects = OPENING;
                    return "23456789".indexOf(c) >= 0;
                default:
                    return takesBehind(c, many);
            }
        }

        private boolean takesOperand(char c) {
            if (c == '(') {
                kind = '(';
                expects = OPENING;
                return takes(c, false);
            }
            if ("xabcdefghDSLERQTCH".indexOf(c) < 0 || atoms == 24) {
                return false;
            }
            atoms++;
            kind = c;
            expects = "xabcdefgh".indexOf(c) >= 0 ? BEHIND_ATOM : c == 'Q' ? ROOT_DIGIT : c == 'T' ? CUT_NUMBER : OPENING;
            return true;
        }

        private boolean takesBehind(char c, boolean many) {
            if (c == '^') {
                boolean can = expects == BEHIND_ATOM;
                expects = EXPONENT;
                return can;
            }
            if ("+-*/".indexOf(c) >= 0) {
                expects = OPERAND;
                return true;
            }
            if (c == ';') {
                expects = LETTER;
                return many && open.isEmpty() && steps < 8;
            }
            if (open.isEmpty()) {
                return false;
            }
            int[] inner = open.peek();
            int atMost = inner[0] == 'C' ? 2 : inner[0] == 'H' ? 6 : 1;
            int atLeast = inner[0] == 'C' || inner[0] == 'H' ? 2 : 1;
            if (c == ',') {
                expects = OPERAND;
                return ++inner[1] <= atMost;
            }
            expects = BEHIND_ATOM;
            return c == ')' && open.pop()[1] >= atLeast;
        }
    }

    // ---- series

    private static int order(int[] f) {
        for (int i = 0; i < f.length; i++) {
            if (f[i] != 0) {
                return i;
            }
        }
        return f.length;
    }

    private int mod(long n) {
        return (int) Math.floorMod(n, (long) p);
    }

    private int quotient(int a, int b) {
        for (int q = 0; q < p; q++) {
            if (mod((long) q * b - a) == 0) {
                return q;
            }
        }
        throw new IllegalStateException("no quotient");
    }

    private static int at(int[] f, int i) {
        return i >= 0 && i < f.length ? f[i] : 0;
    }

    private static int[] cut(int[] f, int from, int n) {
        return java.util.Arrays.copyOfRange(f, from, n);
    }

    private int[] number(int n) {
        int[] f = new int[m];
        f[0] = mod(n);
        return f;
    }

    private int[] plus(int[] f, int[] g, int factor) {
        int[] sum = new int[Math.min(f.length, g.length)];
        for (int i = 0; i < sum.length; i++) {
            sum[i] = mod(f[i] + (long) factor * g[i]);
        }
        return sum;
    }

    private int[] times(int[] f, int[] g) {
        int[] product = new int[Math.min(m, Math.min(order(f) + g.length, order(g) + f.length))];
        for (int i = 0; i < product.length; i++) {
            long sum = 0;
            for (int j = 0; j <= i; j++) {
                sum += (long) at(f, j) * at(g, i - j);
            }
            product[i] = mod(sum);
        }
        return product;
    }

    private int[] power(int[] f, int n) {
        if (n == 0) {
            return number(1);
        }
        int[] product = f;
        for (int k = 1; k < n; k++) {
            product = times(product, f);
        }
        return product;
    }

    private int[] inverse(int[] f) {
        int[] g = new int[f.length];
        for (int i = 0; i < f.length; i++) {
            long sum = i == 0 ? 1 : 0;
            for (int j = 1; j <= i; j++) {
                sum -= (long) f[j] * g[i - j];
            }
            g[i] = quotient(mod(sum), f[0]);
        }
        return g;
    }

    private int[] by(int[] f, int[] g) throws Refusal {
        int v = order(g);
        if (v == g.length || v > order(f)) {
            throw new Refusal(2);
        }
        if (f.length - v == 0) {
            throw new Refusal(5);
        }
        return times(cut(f, v, f.length), inverse(cut(g, v, g.length)));
    }

    private int[] derivative(int[] f) throws Refusal {
        if (f.length == 1) {
            throw new Refusal(5);
        }
        int[] d = new int[f.length - 1];
        for (int i = 0; i < d.length; i++) {
            d[i] = mod((long) (i + 1) * f[i + 1]);
        }
        return d;
    }

    private int[] integral(int[] f) throws Refusal {
        int length = Math.min(m, f.length + 1);
        int[] s = new int[length];
        for (int k = 1; k < length; k++) {
            if (k % p == 0) {
                if (f[k - 1] != 0) {
                    throw new Refusal(3);
                }
                return cut(s, 0, k);
            }
            s[k] = quotient(f[k - 1], k % p);
        }
        return s;
    }

    private int[] logarithm(int[] f) throws Refusal {
        if (f[0] != 1) {
            throw new Refusal(2);
        }
        return f.length == 1 ? new int[1] : integral(by(derivative(f), f));
    }

    private int[] exponential(int[] f) throws Refusal {
        if (f[0] != 0) {
            throw new Refusal(2);
        }
        int[] e = new int[Math.min(f.length, p)];
        e[0] = 1;
        for (int k = 1; k < e.length; k++) {
            long sum = 0;
            for (int i = 0; i < k; i++) {
                sum += (long) (i + 1) * f[i + 1] * e[k - 1 - i];
            }
            e[k] = quotient(mod(sum), k);
        }
        return e;
    }

    /** Plain polynomials to a number of places. */
    private int[] product(int[] f, int[] g, int places) {
        int[] h = new int[places];
        for (int i = 0; i < places; i++) {
            long sum = 0;
            for (int j = 0; j <= i; j++) {
                sum += (long) at(f, j) * at(g, i - j);
            }
            h[i] = mod(sum);
        }
        return h;
    }

    /** What a sum of f_j y^j has at the last of some places. */
    private int[] inserted(int[][] f, int[] y, int places) {
        int[] sum = new int[places];
        for (int j = f.length - 1; j >= 0; j--) {
            sum = product(sum, y, places);
            for (int i = 0; i < places; i++) {
                sum[i] = mod((long) sum[i] + at(f[j], i));
            }
        }
        return sum;
    }

    /** Place by place the only number by which a sum of f_j y^j is as wanted. */
    private int[] grown(int[][] f, int[] wanted, int first, int from, int length) {
        int[] y = new int[length];
        y[0] = first;
        for (int k = from; k < length; k++) {
            y[k] = 0;
            int without = inserted(f, y, k + 1)[k];
            y[k] = 1;
            int with = inserted(f, y, k + 1)[k];
            y[k] = quotient(mod((long) at(wanted, k) - without), mod((long) with - without));
        }
        return y;
    }

    private int[] reversion(int[] f) throws Refusal {
        if (f[0] != 0 || f.length == 1 || f[1] == 0) {
            throw new Refusal(2);
        }
        int[][] parts = new int[f.length][];
        for (int j = 0; j < f.length; j++) {
            parts[j] = new int[] {f[j]};
        }
        return grown(parts, new int[] {0, 1}, 0, 1, f.length);
    }

    private int[] root(int[] f, int k) throws Refusal {
        if (f[0] == 0) {
            throw new Refusal(2);
        }
        if (k % p == 0) {
            throw new Refusal(3);
        }
        int[][] parts = new int[k + 1][1];
        parts[k][0] = 1;
        for (int start = 0; start < p; start++) {
            if (power(new int[] {start}, k)[0] == f[0] && start != 0) {
                return grown(parts, f, start, 1, f.length);
            }
        }
        throw new Refusal(4);
    }

    private int[] composed(int[] f, int[] g) throws Refusal {
        if (g[0] != 0) {
            throw new Refusal(2);
        }
        int[] sum = new int[Math.min(m, f.length * order(g))];
        int[] power = number(1);
        for (int j = 0; j < f.length; j++) {
            power = j == 0 ? power : j == 1 ? g : times(power, g);
            if (f[j] != 0) {
                sum = plus(sum, power, f[j]);
            }
        }
        if (sum.length == 0) {
            throw new Refusal(5);
        }
        return sum;
    }

    // ---- steps

    private static int lastAtTop(String s, String signs) {
        int depth = 0;
        for (int i = s.length() - 1; i >= 0; i--) {
            char c = s.charAt(i);
            depth += c == ')' ? 1 : c == '(' ? -1 : 0;
            if (depth == 0 && signs.indexOf(c) >= 0) {
                return i;
            }
        }
        return -1;
    }

    private int[] evaluate(String s, List<int[]> from) throws Refusal {
        int i = lastAtTop(s, "+-");
        if (i >= 0) {
            int[] left = evaluate(s.substring(0, i), from);
            return plus(left, evaluate(s.substring(i + 1), from), s.charAt(i) == '+' ? 1 : -1);
        }
        i = lastAtTop(s, "*/");
        if (i >= 0) {
            int[] left = evaluate(s.substring(0, i), from);
            int[] right = evaluate(s.substring(i + 1), from);
            return s.charAt(i) == '*' ? times(left, right) : by(left, right);
        }
        i = lastAtTop(s, "^");
        if (i >= 0) {
            return power(evaluate(s.substring(0, i), from), Integer.parseInt(s.substring(i + 1)));
        }
        char c = s.charAt(0);
        if (Character.isDigit(c)) {
            return number(Integer.parseInt(s));
        }
        if (c == 'x') {
            int[] f = number(0);
            f[1] = 1;
            return f;
        }
        if (c >= 'a' && c <= 'h') {
            if (from.get(c - 'a').length == 0) {
                throw new Refusal(0);
            }
            return from.get(c - 'a');
        }
        return called(s, from);
    }

    private int[] called(String s, List<int[]> from) throws Refusal {
        int open = s.indexOf('(');
        String inner = s.substring(open + 1, s.length() - 1);
        List<int[]> given = new ArrayList<>();
        for (String part : parts(inner)) {
            given.add(evaluate(part, from));
        }
        int[] f = given.get(0);
        String number = s.substring(Math.min(1, open), open);
        switch (s.charAt(0)) {
            case 'D':
                return derivative(f);
            case 'S':
                return integral(f);
            case 'L':
                return logarithm(f);
            case 'E':
                return exponential(f);
            case 'R':
                return reversion(f);
            case 'Q':
                return root(f, Integer.parseInt(number));
            case 'T':
                return cut(f, 0, Math.min(f.length, Integer.parseInt(number)));
            case 'C':
                return composed(f, given.get(1));
            case 'H':
                for (int[] g : given.subList(1, given.size())) {
                    int[] h = new int[Math.min(f.length, g.length)];
                    for (int i = 0; i < h.length; i++) {
                        h[i] = mod((long) f[i] * g[i]);
                    }
                    f = h;
                }
                return f;
            default:
                return f;
        }
    }

    private static List<String> parts(String inner) {
        List<String> parts = new ArrayList<>();
        int depth = 0;
        int begin = 0;
        for (int i = 0; i < inner.length(); i++) {
            char c = inner.charAt(i);
            depth += c == '(' ? 1 : c == ')' ? -1 : 0;
            if (c == ',' && depth == 0) {
                parts.add(inner.substring(begin, i));
                begin = i + 1;
            }
        }
        parts.add(inner.substring(begin));
        return parts;
    }

    private int[] tapeSeries() throws Refusal {
        if (!ring) {
            throw new Refusal(0);
        }
        if (fault(2) != NONE) {
            throw new Refusal(1);
        }
        return evaluate(tape.replace(" ", "").substring(2), registers);
    }

    // ---- acts

    private List<List<int[]>> snapshot() {
        return List.of(new ArrayList<>(registers), new ArrayList<>(log));
    }

    private void restore(List<List<int[]>> state) {
        registers = new ArrayList<>(state.get(0));
        log = new ArrayList<>(state.get(1));
    }

    private void act() {
        undo.push(snapshot());
        while (undo.size() > 40) {
            undo.removeLast();
        }
    }

    private void note(int sort, int register) {
        log.add(0, new int[] {sort, register, registers.get(register).length});
        while (log.size() > 60) {
            log.remove(60);
        }
    }

    private int refuse(int reason) {
        status[reason]++;
        return NONE;
    }

    private boolean is(int register) {
        return register >= 0 && register < 8 && registers.get(register).length > 0;
    }

    int rule(int what) {
        return !ring ? NONE : what == 0 ? p : what == 1 ? m : NONE;
    }

    int step() {
        try {
            int[] f = tapeSeries();
            int register = tape.trim().charAt(0) - 'a';
            act();
            registers.set(register, f);
            note(0, register);
            tape = "";
            return f.length;
        } catch (Refusal r) {
            return refuse(r.reason);
        }
    }

    int would(int i) {
        try {
            int[] f = tapeSeries();
            return i == NONE ? f.length : i >= 0 && i < f.length ? f[i] : HIDDEN;
        } catch (Refusal r) {
            return HIDDEN;
        }
    }

    int why() {
        try {
            tapeSeries();
            return NONE;
        } catch (Refusal r) {
            return r.reason;
        }
    }

    int known(int register) {
        return !ring || register < 0 || register > 7 ? NONE : registers.get(register).length;
    }

    int coefficient(int register, int i) {
        if (!is(register) || i < 0 || i >= registers.get(register).length) {
            throw new NoSuchElementException();
        }
        return registers.get(register)[i];
    }

    int order(int register) {
        return is(register) ? order(registers.get(register)) : NONE;
    }

    int cut(int register, int n) {
        if (!is(register)) {
            return refuse(0);
        }
        int length = registers.get(register).length;
        if (n < 1) {
            return refuse(1);
        }
        if (length <= n) {
            return refuse(2);
        }
        act();
        registers.set(register, cut(registers.get(register), 0, n));
        note(1, register);
        return length;
    }

    int drop(int register) {
        if (!is(register)) {
            return refuse(0);
        }
        int length = registers.get(register).length;
        act();
        registers.set(register, new int[0]);
        note(2, register);
        return length;
    }

    int swap(int register, int other) {
        if (register < 0 || register > 7 || other < 0 || other > 7 || !is(register) && !is(other)) {
            return refuse(0);
        }
        if (register == other) {
            return refuse(2);
        }
        act();
        int[] first = registers.get(register);
        registers.set(register, registers.get(other));
        registers.set(other, first);
        note(3, register);
        return registers.get(register).length;
    }

    int perform(int script) {
        if (!ring || script < 0 || script >= scripts.size()) {
            return refuse(0);
        }
        List<List<int[]>> ahead = snapshot();
        String[] steps = scripts.get(script).split(";");
        for (String one : steps) {
            try {
                registers.set(one.charAt(0) - 'a', evaluate(one.substring(2), registers));
                note(0, one.charAt(0) - 'a');
            } catch (Refusal r) {
                restore(ahead);
                return refuse(r.reason);
            }
        }
        List<List<int[]>> behind = snapshot();
        restore(ahead);
        act();
        restore(behind);
        return steps.length;
    }

    int run(int script, int what) {
        if (!ring || script < 0 || script >= scripts.size() || what < 0 || what > 2) {
            return HIDDEN;
        }
        List<int[]> rows = new ArrayList<>(registers);
        String[] steps = scripts.get(script).split(";");
        int length = 0;
        for (int i = 0; i < steps.length; i++) {
            try {
                int[] f = evaluate(steps[i].substring(2), rows);
                rows.set(steps[i].charAt(0) - 'a', f);
                length = f.length;
            } catch (Refusal r) {
                return what == 0 ? i : what == 1 ? r.reason : NONE;
            }
        }
        return what == 2 ? length : NONE;
    }

    int target(int script, int i) {
        if (script < 0 || script >= scripts.size()) {
            return NONE;
        }
        String[] steps = scripts.get(script).split(";");
        return i == NONE ? steps.length : i >= 0 && i < steps.length ? steps[i].charAt(0) - 'a' : NONE;
    }

    private int draw(int j) {
        x = x * 6364136223846793005L + 1442695040888963407L;
        return (int) ((x >>> 33) % j);
    }

    int years(int n, long seed) {
        if (!ring || n < 1 || n > 40) {
            return NONE;
        }
        x = seed;
        for (int year = 0; year < n; year++) {
            int register = draw(8);
            String told;
            switch (draw(6)) {
                case 0:
                    told = draw(p) + "+" + draw(p) + "*x";
                    break;
                case 1:
                    told = letter() + "+" + letter();
                    break;
                case 2:
                    told = letter() + "*" + letter();
                    break;
                case 3:
                    told = "D(" + letter() + ")";
                    break;
                case 4:
                    told = "1/" + letter();
                    break;
                default:
                    String of = letter();
                    told = "T" + (draw(m) + 1) + "(" + of + ")";
                    break;
            }
            try {
                int[] f = evaluate(told, registers);
                act();
                registers.set(register, f);
                note(0, register);
            } catch (Refusal r) {
                continue;
            }
        }
        return count(0);
    }

    private String letter() {
        return String.valueOf((char) ('a' + draw(8)));
    }

    int status(int what) {
        return what >= 0 && what < 6 ? status[what] : NONE;
    }

    int undo() {
        if (undo.isEmpty()) {
            return NONE;
        }
        restore(undo.pop());
        return undo.size();
    }

    int log(int i, int what) {
        return i >= 0 && i < log.size() && what >= 0 && what < 3 ? log.get(i)[what] : HIDDEN;
    }

    int image() {
        if (!ring) {
            return NONE;
        }
        image = snapshot();
        return count(0);
    }

    int back() {
        if (image == null) {
            return NONE;
        }
        restore(image);
        undo.clear();
        return count(0);
    }

    int count(int what) {
        int full = 0;
        for (int[] f : registers) {
            full += f.length > 0 ? 1 : 0;
        }
        return what == 0 ? full : what == 1 ? scripts.size() : what == 2 ? tape.length()
            : what == 3 ? log.size() : what == 4 ? undo.size() : HIDDEN;
    }

    // ---- what is told apart

    int alike(int register, int other) {
        if (!is(register) || !is(other)) {
            return NONE;
        }
        int[] f = registers.get(register);
        int[] g = registers.get(other);
        return order(plus(f, g, -1));
    }

    int value(int register, int n) {
        if (!is(register) || n < 0 || n > 996) {
            return NONE;
        }
        long sum = 0;
        long power = 1;
        for (int c : registers.get(register)) {
            sum += c * power;
            power = mod(power * n);
        }
        return mod(sum);
    }

    int newton(int register, int k, int i) {
        if (!is(register) || k < 0 || k > 4 || registers.get(register)[0] == 0) {
            return NONE;
        }
        int[] f = registers.get(register);
        int[] g = {quotient(1, f[0])};
        for (int round = 1; round <= k; round++) {
            int places = Math.min(1 << round, f.length);
            int[] rest = product(f, g, places);
            for (int j = 0; j < places; j++) {
                rest[j] = mod((j == 0 ? 2 : 0) - rest[j]);
            }
            g = product(g, rest, places);
        }
        return i == NONE ? g.length : i >= 0 && i < g.length ? g[i] : NONE;
    }

    private int[][] four(int r0, int r1, int r2, int r3) {
        int[][] four = new int[4][];
        int[] told = {r0, r1, r2, r3};
        for (int j = 0; j < 4; j++) {
            if (!ring || told[j] != NONE && !is(told[j])) {
                return null;
            }
            four[j] = told[j] == NONE ? number(0) : registers.get(told[j]);
        }
        return four;
    }

    private boolean canStart(int[][] f, int y) {
        long sum = f[0][0] + (long) f[1][0] * y + (long) f[2][0] * y * y + (long) f[3][0] * y * y * y;
        long slope = f[1][0] + 2L * f[2][0] * y + 3L * f[3][0] * y * y;
        return mod(sum) == 0 && mod(slope) != 0;
    }

    int solve(int r0, int r1, int r2, int r3, int start, int i) {
        int[][] f = four(r0, r1, r2, r3);
        if (f == null || start < 0 || start >= p || !canStart(f, start)) {
            return NONE;
        }
        int length = m;
        for (int[] one : f) {
            length = Math.min(length, one.length);
        }
        return i == NONE ? length : i < 0 || i >= length ? NONE : grown(f, new int[0], start, 1, length)[i];
    }

    int starts(int r0, int r1, int r2, int r3, int what) {
        int[][] f = four(r0, r1, r2, r3);
        if (f == null || what != 0 && what != 1) {
            return HIDDEN;
        }
        int number = 0;
        for (int y = 0; y < p; y++) {
            if (canStart(f, y)) {
                number++;
                if (what == 1) {
                    return y;
                }
            }
        }
        return what == 0 ? number : NONE;
    }

    /** Rows of equations for c 1 to c L, made zero below one another. */
    int recur(int register, int i) {
        if (!is(register) || i < 0) {
            return NONE;
        }
        int[] f = registers.get(register);
        for (int length = 0; 2 * length <= f.length; length++) {
            int[] c = recurrence(f, length);
            if (c != null) {
                return i == 0 ? length : i <= length ? c[i - 1] : NONE;
            }
        }
        return NONE;
    }

    private int[] recurrence(int[] f, int length) {
        int rows = f.length - length;
        int[][] a = new int[rows][length + 1];
        for (int r = 0; r < rows; r++) {
            for (int j = 1; j <= length; j++) {
                a[r][j - 1] = f[length + r - j];
            }
            a[r][length] = f[length + r];
        }
        int used = 0;
        int[] pivotOf = new int[length];
        for (int column = 0; column < length; column++) {
            int pivot = used;
            while (pivot < rows && a[pivot][column] == 0) {
                pivot++;
            }
            pivotOf[column] = -1;
            if (pivot == rows) {
                continue;
            }
            int[] row = a[pivot];
            a[pivot] = a[used];
            a[used] = row;
            int head = row[column];
            for (int j = 0; j <= length; j++) {
                row[j] = quotient(row[j], head);
            }
            for (int r = 0; r < rows; r++) {
                int factor = a[r][column];
                for (int j = 0; r != used && j <= length; j++) {
                    a[r][j] = mod(a[r][j] - (long) factor * row[j]);
                }
            }
            pivotOf[column] = used++;
        }
        for (int r = used; r < rows; r++) {
            if (a[r][length] != 0) {
                return null;
            }
        }
        int[] c = new int[length];
        for (int column = 0; column < length; column++) {
            c[column] = pivotOf[column] < 0 ? 0 : a[pivotOf[column]][length];
        }
        return c;
    }

    int one(int register) {
        if (!is(register)) {
            return NONE;
        }
        for (int n = 1; n <= 99; n++) {
            int[] f = power(registers.get(register), n);
            boolean is = f[0] == 1;
            for (int i = 1; i < f.length; i++) {
                is &= f[i] == 0;
            }
            if (is) {
                return n;
            }
        }
        return NONE;
    }

    int sums(int register, int i) {
        if (!is(register) || i < 0 || i >= registers.get(register).length) {
            return NONE;
        }
        int[] less = number(1);
        less[1] = mod(-1);
        return times(registers.get(register), inverse(less))[i];
    }

    int most(int what) {
        if (!ring || what < 0 || what > 6) {
            return HIDDEN;
        }
        int bits = 0;
        int zeroBits = 0;
        int longest = NONE;
        int deepest = NONE;
        int known = 0;
        int notZero = 0;
        int greatest = 0;
        for (int r = 7; r >= 0; r--) {
            int[] f = registers.get(r);
            if (f.length == 0) {
                continue;
            }
            bits += 1 << r;
            zeroBits += f[0] == 0 ? 1 << r : 0;
            longest = longest < 0 || f.length >= registers.get(longest).length ? r : longest;
            deepest = deepest < 0 || order(f) >= order(registers.get(deepest)) ? r : deepest;
            known += f.length;
            for (int c : f) {
                notZero += c != 0 ? 1 : 0;
                greatest = Math.max(greatest, c);
            }
        }
        return new int[] {bits, longest, deepest, known, notZero, greatest, zeroBits}[what];
    }
}
