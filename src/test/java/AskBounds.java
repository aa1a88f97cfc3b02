/** Sentences of the document on what is asked apart: ALIKE, VALUE, NEWTON, SOLVE, STARTS, RECUR, ONE, SUMS, RUN. */
final class AskBounds {
    private static final int NONE = Ledger.NONE;

    private AskBounds() {
    }

    static void all() {
        Ledger.section("Terms");
        apart();
        alike();
        value();
        newton();
        solve();
        starts();
        recur();
        one();
        sums();
        run();
    }

    private static SeriesDesk rich() {
        SeriesDesk x = Ledger.desk("sp7m4", "a=2+x", "b=T3(3+x^2)", "c=x", "d=0", "h=T1(6)");
        Ledger.script(x, "e=a*b;f=1/e", 0);
        Ledger.script(x, "e=a*b;f=g", 1);
        x.image();
        x.cut(1, 2);
        Texts.tell(x, "g=a*a");
        return x;
    }

    private static void apart() {
        Ledger.sentence("(Apart.)");
        SeriesDesk x = rich();
        int sum = 0;
        for (int r = -1; r <= 8; r += 3) {
            for (int i = -1; i <= 4; i += 2) {
                sum += x.alike(r, i) + x.value(r, i) + x.newton(r, i, i) + x.solve(r, i, NONE, 0, 1, i) + x.recur(r, i)
                    + x.one(r) + x.sums(r, i) + x.run(i, 2) + x.starts(0, r, i, NONE, 1);
            }
        }
        sum += x.run(0, 0) + x.run(0, 1) + x.run(0, 2) + x.run(1, 0) + x.run(1, 1) + x.run(1, 2);
        Ledger.due("answers", sum != 0, true);
        Ledger.status(x, 0, 0, 0, 0, 0, 0);
        Ledger.same("what is asked", x, rich());
    }

    private static void alike() {
        Ledger.sentence("ALIKE, two REGISTERS: how many first coefficients are alike, as far as both are known.");
        SeriesDesk x = Ledger.desk("sp7m6", "a=1+2*x+3*x^2", "b=1+2*x+4*x^2", "c=T2(1+2*x)", "d=T1(1)", "e=8+9*x+10*x^2",
            "f=2", "g=1+2*x+3*x^2+x^5");
        int[][] want = {{0, 0, 6}, {0, 1, 2}, {1, 0, 2}, {0, 2, 2}, {2, 1, 2}, {0, 3, 1}, {3, 3, 1}, {0, 4, 6}, {0, 5, 0},
            {5, 3, 0}, {0, 6, 5}, {7, 0, NONE}, {0, 7, NONE}, {7, 7, NONE}, {8, 0, NONE}, {0, -1, NONE}};
        for (int[] one : want) {
            Ledger.due("alike(" + one[0] + ", " + one[1] + ")", x.alike(one[0], one[1]), one[2]);
        }
        for (int n = 1; n <= 5; n++) {
            SeriesDesk y = Ledger.desk("sp7m6", "a=1/(1-x)", "b=T" + n + "(a)", "c=b");
            Ledger.due("alike to the last known", y.alike(0, 1), n);
            Ledger.due("alike, the other way round", y.alike(1, 0), n);
        }
    }

    private static void value() {
        Ledger.sentence("VALUE at n: of the known terms, x being n.");
        for (int prime : new int[] {2, 7, 997}) {
            SeriesDesk x = Ledger.desk("sm4p" + prime, "a=3+5*x+6*x^2+x^3", "b=T2(3+5*x+6*x^2)", "c=T1(1)", "d=x^3");
            for (int n : new int[] {0, 1, 2, 6, 7, 8, 500, 995, 996}) {
                long y = n;
                Ledger.due("value(0, " + n + ")", x.value(0, n), (3 + 5 * y + 6 * y * y + y * y * y) % prime);
                Ledger.due("value(1, " + n + ")", x.value(1, n), (3 + 5 * y) % prime);
                Ledger.due("value(2, " + n + ")", x.value(2, n), 1);
                Ledger.due("value(3, " + n + ")", x.value(3, n), y * y * y % prime);
            }
        }
        SeriesDesk x = Ledger.desk("sp997m24", "a=996/(1-996*x)");
        Ledger.due("the greatest numbers", x.value(0, 996), 996 * 24 % 997);
    }

    private static void newton() {
        Ledger.sentence("NEWTON k (0 .. 4) of a REGISTER (first one not 0):");
        SeriesDesk x = Ledger.desk("sp7m24", "a=2+x", "b=x", "c=0", "d=T1(3)");
        for (int k = 0; k <= 4; k++) {
            Ledger.due("newton(0, " + k + ", -1)", x.newton(0, k, NONE), 1 << k);
        }
        for (int k : new int[] {-1, 5, 6, 31, 32, 33, Ledger.LOW, Ledger.HIGH}) {
            Ledger.due("newton(0, " + k + ", -1)", x.newton(0, k, NONE), NONE);
            Ledger.due("newton(0, " + k + ", 0)", x.newton(0, k, 0), NONE);
        }
        Ledger.due("newton(1, 0, 0)", x.newton(1, 0, 0), NONE);
        Ledger.due("newton(2, 0, -1)", x.newton(2, 0, NONE), NONE);
        Ledger.due("newton(3, 4, 0)", x.newton(3, 4, 0), 5);
        Ledger.sentence("of the row that begins with the INVERSE of its first coefficient, g becoming g times (2 less f "
            + "times g), to twice as many places each time: the k-th has 2 to the k places, LENGTH at most.");
        for (int length = 1; length <= 24; length++) {
            rowsOf(length);
        }
    }

    /** The doubling itself, by the document's words, with plain numbers. */
    private static void rowsOf(int length) {
        SeriesDesk x = Ledger.desk("sp101m24", "a=T" + length + "((3+x)/(1-5*x+7*x^2))");
        int[] f = new int[24];
        for (int i = 0; i < length; i++) {
            f[i] = x.coefficient(0, i);
        }
        int[] g = new int[24];
        g[0] = 34;
        int places = 1;
        for (int k = 0; k <= 4; k++) {
            Ledger.due("places", x.newton(0, k, NONE), places);
            for (int i : new int[] {0, places / 2, places - 1}) {
                Ledger.due("newton(0, " + k + ", " + i + ") of " + length, x.newton(0, k, i), g[i]);
            }
            Ledger.due("behind the last place", x.newton(0, k, places), NONE);
            places = Math.min(2 * places, length);
            int[] rest = times(f, g, places);
            for (int i = 0; i < places; i++) {
                rest[i] = Math.floorMod((i == 0 ? 2 : 0) - rest[i], 101);
            }
            g = times(g, rest, places);
        }
    }

    private static int[] times(int[] f, int[] g, int places) {
        int[] product = new int[24];
        for (int i = 0; i < places; i++) {
            for (int j = 0; j <= i; j++) {
                product[i] = (product[i] + f[j] * g[i - j]) % 101;
            }
        }
        return product;
    }

    private static void solve() {
        Ledger.sentence("SOLVE: REGISTERS (NONE: 0, to MOST) as coefficients of 1, y, y y, y y y: the SERIES y with a first "
            + "coefficient told such that all that added up is 0: as far as all four are known;");
        for (int n = 1; n <= 5; n++) {
            for (int place = 0; place < 4; place++) {
                solvedTo(n, place);
            }
        }
        SeriesDesk x = Ledger.desk("sp101m6", "a=0-1-x", "b=1", "c=0-1", "d=0-x");
        // y y y = 1 + x; y = 1 + x y y; y = 1 + x y y y; y y = 1 + x.
        solved(x, new int[] {0, NONE, NONE, 1}, 1, 1, 34, 56, 25, 17, 1);
        solved(x, new int[] {2, 1, 3, NONE}, 1, 1, 1, 2, 5, 14, 42);
        solved(x, new int[] {2, 1, NONE, 3}, 1, 1, 1, 3, 12, 55, 273 % 101);
        solved(x, new int[] {NONE, 1, NONE, NONE}, 0, 0, 0, 0, 0, 0, 0);
        solved(x, new int[] {0, 1, NONE, NONE}, 1, 1, 1, 0, 0, 0, 0);
        for (int most = 2; most <= 24; most++) {
            SeriesDesk full = Ledger.desk("sp997m" + most, "a=0-1-x", "b=1/(1-x)", "c=1", "d=0");
            Ledger.due("solve, to MOST", full.solve(0, 3, 3, 2, 1, NONE), most);
            int last = full.solve(0, 1, NONE, NONE, 1, most - 1);
            Ledger.due("solve, y = 1 - x x, the last place", last, most == 3 ? 996 : 0);
            Ledger.due("solve, y y y = 1 + x", full.solve(0, NONE, NONE, 2, 1, 1), 665);
        }
        Ledger.sentence("it must be so at the first place, and the derivative by y not 0 there.");
        int[] cube = {0, NONE, NONE, 1};
        for (int start = 0; start < 101; start++) {
            boolean can = start * start % 101 * start % 101 == 1;
            Ledger.due("solve from " + start, x.solve(cube[0], cube[1], cube[2], cube[3], start, NONE), can ? 6 : NONE);
        }
        SeriesDesk y = Ledger.desk("sp7m4", "a=x", "b=1", "c=0-1", "d=2");
        Ledger.due("y y = 0: the derivative is 0", y.solve(NONE, NONE, 1, NONE, 0, NONE), NONE);
        Ledger.due("y y + x = 0: the derivative is 0", y.solve(0, NONE, 1, NONE, 0, NONE), NONE);
        Ledger.due("y y + y = 0 from 0", y.solve(NONE, 1, 1, NONE, 0, NONE), 4);
        Ledger.due("y y + y = 0 from 6", y.solve(NONE, 1, 1, NONE, 6, NONE), 4);
        Ledger.due("y y + y = 0 from 1", y.solve(NONE, 1, 1, NONE, 1, NONE), NONE);
        Ledger.due("y y - 2 y + 1 = 0, twice 1", y.solve(1, squareOf(y), 1, NONE, 1, NONE), NONE);
        Ledger.due("0 = 0", y.solve(NONE, NONE, NONE, NONE, 0, NONE), NONE);
        Ledger.due("1 = 0", y.solve(1, NONE, NONE, NONE, 0, NONE), NONE);
        SeriesDesk three = Ledger.desk("sp3m4", "a=1", "b=0-1");
        Ledger.due("y y y = 1 by 3: the derivative is 0", three.solve(1, NONE, NONE, 0, 1, NONE), NONE);
        SeriesDesk two = Ledger.desk("sp2m4", "a=1", "b=x");
        Ledger.due("y y = 1 by 2: the derivative is 0", two.solve(0, NONE, 0, NONE, 1, NONE), NONE);
        solved(two, new int[] {1, 0, 0, NONE}, 0, 0, 1, 1, 0);
        solved(two, new int[] {1, 0, 0, NONE}, 1, 1, 1, 1, 0);
    }

    /** Puts 0 - 2 into h and tells h. */
    private static int squareOf(SeriesDesk x) {
        Ledger.does(x, "h=0-2");
        return 7;
    }

    private static void solved(SeriesDesk x, int[] r, int start, int... want) {
        Ledger.due("solve, LENGTH", x.solve(r[0], r[1], r[2], r[3], start, NONE), want.length);
        for (int i = 0; i < want.length; i++) {
            Ledger.due("solve, place " + i, x.solve(r[0], r[1], r[2], r[3], start, i), want[i]);
        }
        Ledger.due("solve behind the last place", x.solve(r[0], r[1], r[2], r[3], start, want.length), NONE);
        Ledger.due("solve, place -2", x.solve(r[0], r[1], r[2], r[3], start, -2), NONE);
    }

    /** y = 1 with a coefficient 0 known to n at one place: known to n then. */
    private static void solvedTo(int n, int place) {
        SeriesDesk x = Ledger.desk("sp7m5", "a=0-1", "b=1", "c=T" + n + "(0)");
        int[] r = {0, 1, NONE, NONE};
        if (place == 0) {
            Ledger.does(x, "a=T" + n + "(a)");
        } else if (place == 1) {
            Ledger.does(x, "b=T" + n + "(b)");
        } else {
            r[place] = 2;
        }
        int[] want = new int[n];
        want[0] = 1;
        solved(x, r, 1, want);
    }

    private static void starts() {
        Ledger.sentence("STARTS: numbers from which one can SOLVE so: how many, the least.");
        for (int prime : new int[] {2, 3, 5, 7, 13}) {
            SeriesDesk x = Ledger.desk("sm3p" + prime, "a=1", "b=2", "c=x", "d=3+x", "e=0-1", "f=0-4");
            int[][] asked = {{4, NONE, NONE, 0}, {5, NONE, 0, NONE}, {2, 0, 0, NONE}, {0, 1, 3, 4}, {NONE, 0, 3, 1},
                {NONE, NONE, NONE, NONE}, {0, NONE, NONE, NONE}, {NONE, 2, 0, 2}};
            for (int[] r : asked) {
                int number = 0;
                int least = NONE;
                for (int start = prime - 1; start >= 0; start--) {
                    if (x.solve(r[0], r[1], r[2], r[3], start, NONE) != NONE) {
                        number++;
                        least = start;
                    }
                }
                Ledger.due("starts, how many", x.starts(r[0], r[1], r[2], r[3], 0), number);
                Ledger.due("starts, the least", x.starts(r[0], r[1], r[2], r[3], 1), least);
            }
        }
        SeriesDesk x = Ledger.desk("sp7m4", "a=0-1", "b=1", "c=0-3", "d=0-6");
        Ledger.due("y y y = 1, how many", x.starts(0, NONE, NONE, 1, 0), 3);
        Ledger.due("y y y = 1, the least", x.starts(0, NONE, NONE, 1, 1), 1);
        Ledger.due("y y y = 6, the least", x.starts(3, NONE, NONE, 1, 1), 3);
        Ledger.due("y y = 3, how many", x.starts(2, NONE, 1, NONE, 0), 0);
        Ledger.due("y y = 3, the least", x.starts(2, NONE, 1, NONE, 1), NONE);
        Ledger.due("y = 0, how many", x.starts(NONE, 1, NONE, NONE, 0), 1);
        Ledger.due("y = 0, the least", x.starts(NONE, 1, NONE, NONE, 1), 0);
        SeriesDesk y = Ledger.desk("sp997m2", "a=0-1", "b=1");
        Ledger.due("y y = 1 by 997", y.starts(0, NONE, 1, NONE, 0), 2);
        Ledger.due("y y y = 1 by 997", y.starts(0, NONE, NONE, 1, 0), 3);
        Ledger.due("y = 996 by 997", y.starts(1, 1, NONE, NONE, 1), 996);
    }

    private static void recur() {
        Ledger.sentence("RECUR: the least number L such that, of a REGISTER, numbers c 1 to c L are there by which each "
            + "coefficient from the L-th place on is c 1 times the one ahead and so on;");
        recurs("1/(1-x)", 8, 1, 1);
        recurs("1/(1-x-x^2)", 8, 2, 1, 1);
        recurs("1/(1-2*x-3*x^2-4*x^3-5*x^4)", 8, 4, 2, 3, 4, 5);
        recurs("1/(1-x)^3", 8, 3, 3, 98, 1);
        recurs("0", 8, 0);
        recurs("T1(0)", 1, 0);
        recurs("5", 8, 1, 0);
        recurs("5", 2, 1, 0);
        recurs("x", 8, 2, 0, 0);
        recurs("x^3", 8, 4, 0, 0, 0, 0);
        recurs("1+x+x^2+5*x^3", 8, 4, 0, 0, 0, 0);
        recurs("x/(1-x)", 8, 2, 1, 0);
        recurs("1/(1-7*x^2)", 8, 2, 0, 7);
        Ledger.sentence("told, if LENGTH is twice L or more;");
        for (int k = 0; k < 24; k++) {
            SeriesDesk x = Ledger.desk("sp2m24", "a=x^" + k);
            Ledger.due("recur of x^" + k, x.recur(0, 0), k < 12 ? k + 1 : NONE);
            Ledger.due("recur of x^" + k, x.recur(0, 1), k < 12 ? 0 : NONE);
        }
        int[] ofTwo = {NONE, 1, NONE, 2, 2, 2, 2, 2};
        int[] ofThree = {NONE, 1, NONE, 2, NONE, 3, 3, 3};
        for (int length = 1; length <= 8; length++) {
            SeriesDesk x = Ledger.desk("sp101m8", "a=T" + length + "(1/(1-x-x^2))", "b=T" + length + "(1/(1-x-x^2-5*x^3))",
                "c=T" + length + "(3)");
            Ledger.due("of two, known to " + length, x.recur(0, 0), ofTwo[length - 1]);
            Ledger.due("of three, known to " + length, x.recur(1, 0), ofThree[length - 1]);
            Ledger.due("a number, known to " + length, x.recur(2, 0), length == 1 ? NONE : 1);
        }
        Ledger.sentence("these numbers.");
        recurs("(1+x)/(1-50*x-100*x^2)", 8, 2, 50, 100);
        recurs("1/(1-x)+1/(1-2*x)", 4, 2, 3, 99);
        recurs("T4(1/(1-9*x^2))", 4, 2, 0, 9);
    }

    private static void recurs(String expression, int length, int want, int... numbers) {
        SeriesDesk x = Ledger.desk("sp101m8", "a=T" + length + "(" + expression + ")");
        Ledger.due("recur(0, 0) of " + expression, x.recur(0, 0), want);
        for (int i = 1; i <= want; i++) {
            Ledger.due("recur(0, " + i + ") of " + expression, x.recur(0, i), numbers[i - 1]);
        }
        Ledger.due("recur behind the last number", x.recur(0, want + 1), NONE);
        Ledger.due("recur(0, -1)", x.recur(0, -1), NONE);
    }

    private static void one() {
        Ledger.sentence("ONE: the least n (1 .. 99) by which the n-th power of a REGISTER is 1, then 0 as far as it is "
            + "known.");
        for (int number = 0; number < 199; number++) {
            SeriesDesk x = Ledger.desk("sp199m2", "a=" + number);
            int power = number % 199;
            int n = 1;
            while (power != 1 && n < 200) {
                power = power * number % 199;
                n++;
            }
            Ledger.due("one of " + number, x.one(0), n <= 99 ? n : NONE);
        }
        Ledger.due("an order of 100", Ledger.desk("sp101", "a=2").one(0), NONE);
        Ledger.due("an order of 98", Ledger.desk("sp197", "a=4").one(0), 98);
        Ledger.due("an order of 98", Ledger.desk("sp7m8", "a=6+x").one(0), 98);
        for (int length = 1; length <= 24; length++) {
            SeriesDesk x = Ledger.desk("sp2m24", "a=T" + length + "(1+x)");
            int n = 1;
            while (n < length) {
                n *= 2;
            }
            Ledger.due("1 + x by 2, known to " + length, x.one(0), n);
        }
        for (int length = 1; length <= 10; length++) {
            SeriesDesk x = Ledger.desk("sp5m12", "a=T" + length + "(1+x)", "b=T" + length + "(1+x^2)", "c=T" + length + "(2+x)");
            Ledger.due("1 + x by 5", x.one(0), length == 1 ? 1 : length <= 5 ? 5 : 25);
            Ledger.due("1 + x x by 5", x.one(1), length <= 2 ? 1 : 5);
            Ledger.due("2 + x by 5", x.one(2), length == 1 ? 4 : length <= 5 ? 20 : NONE);
        }
        Ledger.due("1 + x by 97", Ledger.desk("sp97m24", "a=1+x").one(0), 97);
        Ledger.due("1 + x by 101", Ledger.desk("sp101m24", "a=1+x").one(0), NONE);
        Ledger.due("96 + x by 97", Ledger.desk("sp97m24", "a=96+x").one(0), NONE);
        Ledger.due("x", Ledger.desk("sp7m4", "a=x").one(0), NONE);
        Ledger.due("0", Ledger.desk("sp7m4", "a=0").one(0), NONE);
        Ledger.due("0, known to 1", Ledger.desk("sp7m4", "a=T1(0)").one(0), NONE);
    }

    private static void sums() {
        Ledger.sentence("SUMS: coefficients added up to each place (as by 1 less x divided): at a place.");
        SeriesDesk x = Ledger.desk("sp7m6", "a=1+2*x+6*x^3+3*x^5", "b=a/(1-x)", "c=T2(6+6*x)", "d=T1(5)");
        int[] want = {1, 3, 3, 2, 2, 5};
        for (int i = 0; i < 6; i++) {
            Ledger.due("sums(0, " + i + ")", x.sums(0, i), want[i]);
            Ledger.due("as divided", x.coefficient(1, i), want[i]);
        }
        Ledger.due("sums(0, 6)", x.sums(0, 6), NONE);
        Ledger.due("sums(2, 1)", x.sums(2, 1), 5);
        Ledger.due("sums(2, 2)", x.sums(2, 2), NONE);
        Ledger.due("sums(3, 0)", x.sums(3, 0), 5);
        Ledger.due("sums(3, 1)", x.sums(3, 1), NONE);
        SeriesDesk y = Ledger.desk("sp997m24", "a=996/(1-x)");
        Ledger.due("the greatest numbers", y.sums(0, 23), 996 * 24 % 997);
    }

    private static void run() {
        Ledger.sentence("RUN of a SCRIPT: which STEP is the first that can't be; by which REASON; LENGTH of its last STEP's "
            + "REGISTER behind it.");
        String[] wrong = {"h=g", "h=1/0", "h=S(x^6)", "h=Q2(3)", "h=D(T1(1))"};
        int[] reasons = {0, 2, 3, 4, 5};
        for (int why = 0; why < wrong.length; why++) {
            for (int at = 0; at < 8; at += 1) {
                SeriesDesk x = Ledger.desk("sp7m9");
                StringBuilder told = new StringBuilder();
                for (int i = 0; i < 8; i++) {
                    told.append(i == 0 ? "" : ";").append(i == at ? wrong[why] : i > at ? "b=1/0" : "a=x");
                }
                Ledger.script(x, told.toString(), 0);
                Ledger.due("run(0, 0)", x.run(0, 0), at);
                Ledger.due("run(0, 1)", x.run(0, 1), reasons[why]);
                Ledger.due("run(0, 2)", x.run(0, 2), NONE);
            }
        }
        SeriesDesk x = Ledger.desk("sp7m9", "a=T5(1+x)");
        Ledger.script(x, "a=D(a);a=D(a);a=D(a);a=D(a)", 0);
        Ledger.script(x, "b=a;a=T2(b);c=b", 1);
        Ledger.script(x, "a=D(a);a=D(a);a=D(a);a=D(a);a=D(a)", 2);
        Ledger.script(x, "b=1;a=T3(1)", 3);
        ran(x, 0, NONE, NONE, 1);
        ran(x, 1, NONE, NONE, 5);
        ran(x, 2, 4, 5, NONE);
        ran(x, 3, NONE, NONE, 3);
        Ledger.due("known(0)", x.known(0), 5);
        Ledger.due("perform(0)", x.perform(0), 4);
        ran(x, 0, 0, 5, NONE);
    }

    private static void ran(SeriesDesk x, int script, int step, int reason, int length) {
        Ledger.due("run(" + script + ", 0)", x.run(script, 0), step);
        Ledger.due("run(" + script + ", 1)", x.run(script, 1), reason);
        Ledger.due("run(" + script + ", 2)", x.run(script, 2), length);
    }
}
