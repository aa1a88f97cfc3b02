/** Sentences of the document on SERIES: how far what is told of others is known, and by which REASON it can't be. */
final class SeriesBounds {
    private static final int NONE = Ledger.NONE;
    private static final int HIDDEN = Ledger.HIDDEN;

    private SeriesBounds() {
    }

    static void all() {
        Ledger.section("Terms");
        lengths();
        orders();
        numbers();
        sums();
        products();
        quotients();
        powers();
        derivatives();
        integrals();
        logarithms();
        exponentials();
        reversions();
        roots();
        shortened();
        composed();
        matched();
        reasons();
        firstReasons();
    }

    /** x to the v, known to n places: 0 alone, if v is n. */
    private static String part(int n, int v) {
        return "T" + n + "(x^" + v + ")";
    }

    private static int[] zeros(int n) {
        return new int[n];
    }

    private static int[] unit(int n, int place) {
        int[] row = new int[n];
        if (place < n) {
            row[place] = 1;
        }
        return row;
    }

    private static void comes(SeriesDesk x, String expression, int... want) {
        Ledger.comes(x, expression, want);
    }

    private static void reason(SeriesDesk x, String expression, int want) {
        Ledger.reason(x, expression, want);
    }

    private static void length(SeriesDesk x, String expression, int want) {
        Ledger.length(x, expression, want);
    }

    private static void lengths() {
        Ledger.sentence("A SERIES has a LENGTH (1 .. MOST):");
        for (int most = 2; most <= 24; most++) {
            SeriesDesk x = Ledger.desk("sp29m" + most, "b=x", "c=T1(5)", "d=x");
            Ledger.due("the longest", x.known(1), most);
            Ledger.due("the shortest", x.known(2), 1);
            for (String full : new String[] {"b*b", "S(b)", "b^99", "0*0", "C(b,b)", "T24(b)", "c^0", "R(b)", "b+b", "b-b",
                "1/(1-b)", "b/(1-b)", "L(1+b)", "E(b)", "Q2(4+b)", "Q9(1+b)", "H(b,b)", "R(b/(1-b))", "C(1/(1-b),b/(1-b))"}) {
                length(x, full, most);
            }
            length(x, "b/b", most - 1);
            length(x, "b^2/b", most - 1);
            length(x, "D(b)", most - 1);
            Ledger.due("cut(3, 1)", x.cut(3, 1), most);
            Ledger.due("cut(3, 0)", x.cut(3, 0), NONE);
            Ledger.due("known(3)", x.known(3), 1);
        }
        Ledger.sentence("its coefficients (0 .. PRIME less 1; all is by PRIME) of x to the 0 and on are known so far, "
            + "no further.");
        for (int prime : new int[] {2, 3, 5, 7, 31, 499, 991, 997}) {
            SeriesDesk x = Ledger.desk("sm3p" + prime);
            comes(x, "" + (prime - 1), prime - 1, 0, 0);
            comes(x, "" + prime, 0, 0, 0);
            comes(x, "999", 999 % prime, 0, 0);
            comes(x, "0-1", prime - 1, 0, 0);
            comes(x, "(0-1)*(0-1)", 1, 0, 0);
            comes(x, "0-x-x^2", 0, prime - 1, prime - 1);
            comes(x, "1-x+" + (prime - 1), 0, prime - 1, 0);
        }
        SeriesDesk x = Ledger.desk("sm5", "b=T2(3+4*x+5*x^2)");
        Ledger.row(x, 1, 3, 4);
        comes(x, "b+5*x^2", 3, 4);
    }

    private static void orders() {
        Ledger.sentence("ORDER: the first place with a coefficient other than 0 (LENGTH, if there is none).");
        for (int n = 1; n <= 6; n++) {
            for (int v = 0; v <= 6; v++) {
                SeriesDesk x = Ledger.desk("sm6", "h=" + part(n, v) + "+x^5");
                Ledger.due("order of " + part(n, v) + "+x^5", x.order(7), Math.min(n, Math.min(v, 5)));
            }
        }
        Ledger.due("order of 0", Ledger.desk("sm24", "a=0").order(0), 24);
        Ledger.due("order of 7", Ledger.desk("sm24", "a=7").order(0), 24);
        Ledger.due("order of T1(0)", Ledger.desk("sm24", "a=T1(0)").order(0), 1);
        Ledger.sentence("There are eight REGISTERS (a 0 .. h 7), empty at first.");
        SeriesDesk x = Ledger.desk("s");
        for (int register = 0; register < 8; register++) {
            Ledger.due("known(" + register + ")", x.known(register), 0);
            reason(x, "" + (char) ('a' + register), 0);
        }
        Ledger.due("known(8)", x.known(8), NONE);
        Ledger.due("known(-1)", x.known(-1), NONE);
        for (int register = 0; register < 8; register++) {
            Ledger.does(x, (char) ('a' + register) + "=T" + (register + 1) + "(x)");
        }
        for (int register = 0; register < 8; register++) {
            Ledger.due("known(" + register + ")", x.known(register), register + 1);
        }
        Ledger.due("count(0)", x.count(0), 8);
    }

    private static void numbers() {
        Ledger.sentence("A number, x: known to MOST.");
        for (int most = 2; most <= 24; most++) {
            SeriesDesk x = Ledger.desk("sp7m" + most);
            comes(x, "x", unit(most, 1));
            comes(x, "1", unit(most, 0));
            comes(x, "0", zeros(most));
            comes(x, "999", unitTimes(most, 5));
        }
    }

    private static int[] unitTimes(int n, int factor) {
        int[] row = unit(n, 0);
        row[0] *= factor;
        return row;
    }

    private static void sums() {
        Ledger.sentence("+ and -: as far as both are.");
        for (int n = 1; n <= 6; n++) {
            for (int m = 1; m <= 6; m++) {
                SeriesDesk x = Ledger.desk("sp7m6");
                length(x, part(n, 0) + "+" + part(m, 0), Math.min(n, m));
                length(x, part(n, 1) + "-" + part(m, 6), Math.min(n, m));
                length(x, part(n, 0) + "-" + part(6, 0) + "+" + part(m, 0), Math.min(n, m));
            }
        }
        SeriesDesk x = Ledger.desk("sp7m4");
        comes(x, "(5+6*x+x^3)+T3(3+x+2*x^2)", 1, 0, 2);
        comes(x, "T3(3+x+2*x^2)-(5+6*x+x^3)", 5, 2, 2);
        comes(x, "1-2-3", 3, 0, 0, 0);
        comes(x, "1-(2-3)", 2, 0, 0, 0);
    }

    private static void products() {
        Ledger.sentence("*: to the lesser of ORDER of the one and LENGTH of the other one, the other way round, "
            + "MOST at most.");
        for (int n = 1; n <= 6; n++) {
            for (int v = 0; v <= n; v++) {
                SeriesDesk x = Ledger.desk("sp7m6");
                for (int m = 1; m <= 6; m++) {
                    for (int w = 0; w <= m; w++) {
                        length(x, part(n, v) + "*" + part(m, w), Math.min(6, Math.min(v + m, w + n)));
                    }
                }
            }
        }
        SeriesDesk x = Ledger.desk("sp7m6");
        comes(x, "T3(x)*T2(2+3*x)", 0, 2, 3);
        comes(x, "T2(0)*T3(0)", zeros(5));
        comes(x, "T5(x^3)*T4(x^2+x^3)", 0, 0, 0, 0, 0, 1);
        comes(x, "T6(x^5)*x^5", zeros(6));
        comes(x, "T2(1+x)*T2(1+x)", 1, 2);
        comes(x, "(x+2*x^2)*(x+2*x^2)", 0, 0, 1, 4, 4, 0);
        comes(x, "(3*x)*(5*x)", 0, 0, 1, 0, 0, 0);
    }

    private static void quotients() {
        Ledger.sentence("INVERSE (first coefficient not 0): as far as it is.");
        for (int most = 2; most <= 24; most++) {
            SeriesDesk x = Ledger.desk("sp7m" + most);
            for (int n = 1; n <= most; n++) {
                length(x, "1/T" + n + "(3+x)", n);
            }
            reason(x, "1/T1(x)", 2);
            reason(x, "1/x", 2);
            reason(x, "1/(7+x)", 2);
        }
        comes(Ledger.desk("sp7m6"), "1/(2+x)", 4, 5, 1, 3, 2, 6);
        comes(Ledger.desk("sp2m6"), "1/(1+x+x^2)", 1, 1, 0, 1, 1, 0);
        for (int first = 1; first < 31; first++) {
            SeriesDesk x = Ledger.desk("sp31m2");
            comes(x, first + "*(1/" + first + ")", 1, 0);
        }
        Ledger.sentence("/: by one with a coefficient other than 0, of ORDER v, no more than ORDER of the one that is "
            + "divided: both without their first v places, the first times the INVERSE of the other one.");
        for (int n = 1; n <= 5; n++) {
            for (int w = 0; w <= n; w++) {
                for (int m = 1; m <= 5; m++) {
                    SeriesDesk x = Ledger.desk("sp7m5");
                    for (int v = 0; v <= m; v++) {
                        divided(x, n, w, m, v);
                    }
                }
            }
        }
        SeriesDesk x = Ledger.desk("sp7m6");
        comes(x, "(x^2+x^3)/(x+x^2)", 0, 1, 0, 0, 0);
        comes(x, "(x^2+x^3)/(2*x^2)", 4, 4, 0, 0);
        comes(x, "x^5/x^5", 1);
        comes(x, "0/x^5", 0);
        comes(x, "1/(1-x)", 1, 1, 1, 1, 1, 1);
        comes(x, "8/2/2", 2, 0, 0, 0, 0, 0);
        comes(x, "8/(2/2)", 1, 0, 0, 0, 0, 0);
    }

    /** x^w, known to n, by x^v, known to m. */
    private static void divided(SeriesDesk x, int n, int w, int m, int v) {
        String told = part(n, w) + "/" + part(m, v);
        if (v == m || v > w) {
            reason(x, told, 2);
        } else if (n == v) {
            reason(x, told, 5);
        } else {
            reason(x, told, NONE);
            length(x, told, Math.min(n - v, w - v + m - v));
        }
    }

    private static void powers() {
        Ledger.sentence("^: 0: 1, to MOST; else so many alike multiplied, from the left on.");
        for (int n = 1; n <= 6; n++) {
            for (int v = 0; v <= n; v++) {
                SeriesDesk x = Ledger.desk("sp7m6");
                comes(x, part(n, v) + "^0", unit(6, 0));
                for (int k : new int[] {1, 2, 3, 4, 5, 6, 7, 98, 99}) {
                    int known = Math.min(6, (k - 1) * v + n);
                    comes(x, part(n, v) + "^" + k, v < n ? unit(known, k * v) : zeros(known));
                }
            }
        }
        SeriesDesk x = Ledger.desk("sp101m5");
        comes(x, "(1+x)^4", 1, 4, 6, 4, 1);
        comes(x, "0^0", 1, 0, 0, 0, 0);
        comes(x, "0^1", 0, 0, 0, 0, 0);
        comes(x, "T1(0)^0", 1, 0, 0, 0, 0);
        comes(x, "(1+x)^99", 1, 99, 3, 97, 5);
        comes(x, "2^99", 51, 0, 0, 0, 0);
        comes(x, "2*x^2", 0, 0, 2, 0, 0);
        reason(x, "b^0", 0);
    }

    private static void derivatives() {
        Ledger.sentence("D: the derivative, one less.");
        for (int most = 2; most <= 24; most++) {
            SeriesDesk x = Ledger.desk("sp7m" + most);
            reason(x, "D(T1(3))", 5);
            for (int n = 2; n <= most; n++) {
                length(x, "D(T" + n + "(1+x))", n - 1);
            }
        }
        SeriesDesk x = Ledger.desk("sp7m9");
        comes(x, "D(1+x+x^2+x^3+x^6+x^7+x^8)", 1, 2, 3, 0, 0, 6, 0, 1);
        comes(x, "D(T2(5+6*x))", 6);
        reason(x, "D(D(T2(x)))", 5);
        comes(Ledger.desk("sp2m4"), "D(x+x^2+x^3)", 1, 0, 1);
    }

    private static void integrals() {
        Ledger.sentence("S: the integral, 0 first: one more (MOST at most), but to the first place k above 0 that PRIME "
            + "divides, if there is one among them;");
        int[] primes = {2, 3, 5, 7, 11, 13, 17, 19, 23, 29, 997};
        for (int prime : primes) {
            for (int most : new int[] {2, 3, 4, 7, 8, 11, 12, 23, 24}) {
                SeriesDesk x = Ledger.desk("sp" + prime + "m" + most);
                for (int n = 1; n <= most; n++) {
                    length(x, "S(T" + n + "(0))", Math.min(Math.min(n + 1, most), prime));
                }
            }
        }
        comes(Ledger.desk("sp7m4"), "S(1+2*x+3*x^2)", 0, 1, 1, 1);
        comes(Ledger.desk("sp7m4"), "S(T1(3))", 0, 3);
        comes(Ledger.desk("sp7m9"), "S(1+x^5)", 0, 1, 0, 0, 0, 0, 6);
        comes(Ledger.desk("sp7m9"), "S(1+x^7)", 0, 1, 0, 0, 0, 0, 0);
        comes(Ledger.desk("sp2m4"), "S(1)", 0, 1);
        comes(Ledger.desk("sp2m2"), "S(x)", 0, 0);
        Ledger.sentence("the coefficient that would be divided there must be 0.");
        for (int prime : primes) {
            for (int most : new int[] {2, 3, 4, 7, 8, 11, 12, 23, 24}) {
                SeriesDesk x = Ledger.desk("sp" + prime + "m" + most);
                for (int n = 1; n <= most && prime < 99; n++) {
                    boolean divides = prime < Math.min(n + 1, most);
                    reason(x, "S(T" + n + "(x^" + (prime - 1) + "))", divides ? 3 : NONE);
                }
            }
        }
        reason(Ledger.desk("sp7m8"), "S(x^6)", 3);
        reason(Ledger.desk("sp7m7"), "S(x^6)", NONE);
        reason(Ledger.desk("sp7m24"), "S(x^13)", NONE);
        reason(Ledger.desk("sp7m24"), "S(x^5)", NONE);
    }

    private static void logarithms() {
        Ledger.sentence("L (first coefficient 1): S of D of it by it (of LENGTH 1: 0, as long).");
        for (int prime : new int[] {2, 3, 5, 7, 11, 29}) {
            SeriesDesk x = Ledger.desk("sm12p" + prime);
            comes(x, "L(T1(1))", 0);
            for (int n = 1; n <= 12; n++) {
                length(x, "L(T" + n + "(1))", Math.min(n, prime));
                reason(x, "L(T" + n + "(1+x))", prime < n ? 3 : NONE);
            }
        }
        SeriesDesk x = Ledger.desk("sp101m6");
        comes(x, "L(1+x)", 0, 1, 50, 34, 25, 81);
        comes(x, "L(1)", zeros(6));
        comes(x, "L(T2(1+5*x))", 0, 5);
        for (String first : new String[] {"0", "2", "100", "x", "T1(2)", "T1(0)"}) {
            reason(x, "L(" + first + ")", 2);
        }
        reason(x, "L(102)", NONE);
    }

    private static void exponentials() {
        Ledger.sentence("E (first one 0): the one e with e's first 1 and D of e D of it times e: as far as it is, "
            + "to PRIME at most.");
        for (int prime : new int[] {2, 3, 5, 7, 11, 29}) {
            SeriesDesk x = Ledger.desk("sm12p" + prime);
            comes(x, "E(T1(0))", 1);
            for (int n = 1; n <= 12; n++) {
                comes(x, "E(T" + n + "(0))", unit(Math.min(n, prime), 0));
            }
            length(x, "E(x)", Math.min(12, prime));
        }
        SeriesDesk x = Ledger.desk("sp101m6");
        comes(x, "E(x)", 1, 1, 51, 17, 80, 16);
        comes(x, "E(T3(2*x))", 1, 2, 2);
        comes(x, "E(L(1+x+7*x^3))", 1, 1, 0, 7, 0, 0);
        for (String first : new String[] {"1", "100", "1+x", "T1(1)"}) {
            reason(x, "E(" + first + ")", 2);
        }
        reason(x, "E(101)", NONE);
    }

    private static void reversions() {
        Ledger.sentence("R (first one 0, the next one known, not 0): the one by which it, composed with that, is x: "
            + "as far as it is.");
        for (int most = 2; most <= 24; most++) {
            SeriesDesk x = Ledger.desk("sp7m" + most);
            reason(x, "R(T1(x))", 2);
            for (int n = 2; n <= most; n++) {
                comes(x, "R(T" + n + "(x))", unit(n, 1));
            }
        }
        SeriesDesk x = Ledger.desk("sp7m6");
        for (String wrong : new String[] {"0", "1", "1+x", "x^2", "7*x", "T1(0)", "T1(1)", "T2(x^2)", "6+x"}) {
            reason(x, "R(" + wrong + ")", 2);
        }
        comes(x, "R(x-x^2)", 0, 1, 1, 2, 5, 0);
        comes(x, "R(2*x)", 0, 4, 0, 0, 0, 0);
        comes(x, "R(T2(3*x))", 0, 5);
        comes(x, "C(3*x+x^2+2*x^5,R(3*x+x^2+2*x^5))", 0, 1, 0, 0, 0, 0);
        comes(x, "C(R(3*x+x^2+2*x^5),3*x+x^2+2*x^5)", 0, 1, 0, 0, 0, 0);
        comes(Ledger.desk("sp2m8"), "C(x+x^2+x^3,R(x+x^2+x^3))", 0, 1, 0, 0, 0, 0, 0, 0);
    }

    private static void roots() {
        Ledger.sentence("Q k (first one not 0, k not divided by PRIME): the one whose k-th power it is, with the least "
            + "first coefficient that can be: as far as it is.");
        for (int prime : new int[] {2, 3, 5, 7, 11, 13, 31}) {
            for (int k = 2; k <= 9; k++) {
                SeriesDesk x = Ledger.desk("sm4p" + prime);
                reason(x, "Q" + k + "(0)", 2);
                reason(x, "Q" + k + "(x)", 2);
                reason(x, "Q" + k + "(T1(0))", 2);
                for (int first = 1; first < prime; first++) {
                    rooted(x, prime, k, first);
                }
            }
        }
        SeriesDesk x = Ledger.desk("sp101m6");
        comes(x, "Q2(1-4*x)", 1, 99, 99, 97, 91, 73);
        comes(x, "Q3((2+x)^3)", 2, 1, 0, 0, 0, 0);
        comes(x, "Q9((1+5*x+x^5)^9)", 1, 5, 0, 0, 0, 1);
        for (int n = 1; n <= 6; n++) {
            length(x, "Q5(T" + n + "(1+x))", n);
        }
        comes(Ledger.desk("sp2m6"), "Q3(1+x)^3", 1, 1, 0, 0, 0, 0);
    }

    private static void rooted(SeriesDesk x, int prime, int k, int first) {
        int least = 0;
        for (int r = prime - 1; r > 0; r--) {
            int power = 1;
            for (int i = 0; i < k; i++) {
                power = power * r % prime;
            }
            least = power == first ? r : least;
        }
        String told = "Q" + k + "(" + first + ")";
        reason(x, told, k % prime == 0 ? 3 : least == 0 ? 4 : NONE);
        Ledger.due("would(0) of " + told, x.would(0), k % prime == 0 || least == 0 ? HIDDEN : least);
        Ledger.due("would(3) of " + told, x.would(3), k % prime == 0 || least == 0 ? HIDDEN : 0);
    }

    private static void shortened() {
        Ledger.sentence("T n: n at most.");
        for (int most : new int[] {2, 3, 12, 23, 24}) {
            SeriesDesk x = Ledger.desk("sp7m" + most);
            for (int n = 1; n <= 24; n++) {
                length(x, "T" + n + "(x)", Math.min(n, most));
                length(x, "T" + n + "(T3(x))", Math.min(n, Math.min(3, most)));
            }
        }
        comes(Ledger.desk("sp7m5"), "T3(1+2*x+3*x^2+4*x^3)", 1, 2, 3);
        comes(Ledger.desk("sp7m5"), "T24(1+2*x+3*x^2+4*x^3)", 1, 2, 3, 4, 0);
        comes(Ledger.desk("sp7m5"), "T1(1+2*x)", 1);
    }

    private static void composed() {
        Ledger.sentence("C f, g (first of g 0): coefficients of f, from the first on, times powers of g (1, g, g times g, "
            + "that times g ..; those with a coefficient 0 left out), added up: as far as all these are, to LENGTH of f "
            + "times ORDER of g, MOST at most.");
        for (int n = 1; n <= 5; n++) {
            for (int j = 0; j <= n; j++) {
                SeriesDesk x = Ledger.desk("sp7m7");
                for (int m = 1; m <= 5; m++) {
                    reason(x, "C(" + part(n, j) + "," + part(m, 0) + ")", 2);
                    for (int v = 1; v <= m; v++) {
                        int known = Math.min(7, n * v);
                        if (j > 0 && j < n) {
                            known = Math.min(known, (j - 1) * v + m);
                        }
                        boolean shown = j < n && v < m || j == 0;
                        comes(x, "C(" + part(n, j) + "," + part(m, v) + ")", shown ? unit(known, j * v) : zeros(known));
                    }
                }
            }
        }
        SeriesDesk x = Ledger.desk("sp101m6");
        comes(x, "C(1/(1-x),x/(1-x))", 1, 1, 2, 4, 8, 16);
        comes(x, "C(1+2*x+3*x^2,5*x)", 1, 10, 75, 0, 0, 0);
        comes(x, "C(T2(1+2*x),T3(x^2))", 1, 0, 2);
        comes(x, "C(T2(1+2*x),T6(x^2))", 1, 0, 2, 0);
        comes(x, "C(3,T1(0))", 3, 0, 0, 0, 0, 0);
        comes(x, "C(T2(3),T2(0))", 3, 0, 0, 0);
        reason(x, "C(x,1)", 2);
        reason(x, "C(x,T1(5))", 2);
        reason(x, "C(x,101)", NONE);
    }

    private static void matched() {
        Ledger.sentence("H: place by place multiplied, as far as all are.");
        SeriesDesk x = Ledger.desk("sp7m6");
        comes(x, "H(1+2*x+3*x^2,4+5*x)", 4, 3, 0, 0, 0, 0);
        comes(x, "H(T3(2+2*x+2*x^2),T4(2+2*x+2*x^2),T5(3+x+2*x^2))", 5, 4, 1);
        comes(x, "H(2,2,2,2,2,3)", 5, 0, 0, 0, 0, 0);
        for (int place = 0; place < 6; place++) {
            StringBuilder told = new StringBuilder("H(");
            for (int i = 0; i < 6; i++) {
                told.append(i == 0 ? "" : ",").append(i == place ? "T2(x)" : "x");
            }
            comes(x, told + ")", 0, 1);
        }
        for (int n = 1; n <= 6; n++) {
            for (int m = 1; m <= 6; m++) {
                length(x, "H(" + part(n, 0) + "," + part(m, 0) + ")", Math.min(n, m));
            }
        }
    }

    private static void reasons() {
        Ledger.sentence("REASONS, as STATUS: 0 no RING, no such REGISTER, an empty one;");
        SeriesDesk none = new SeriesDesk();
        reason(none, "1", 0);
        Ledger.due("step()", none.step(), NONE);
        Ledger.due("cut(0, 1)", none.cut(0, 1), NONE);
        Ledger.due("status(0)", none.status(0), 2);
        SeriesDesk x = Ledger.desk("sp7m9", "b=1");
        Ledger.due("cut(8, 1)", x.cut(8, 1), NONE);
        Ledger.due("drop(-1)", x.drop(-1), NONE);
        Ledger.due("drop(0)", x.drop(0), NONE);
        refused(x, "c", 0, 4);
        refused(x, "b+c", 0, 5);
        Ledger.sentence("1 a FAULT, out of bounds;");
        refused(x, "1000", 1, 1);
        refused(x, "b+", 1, 2);
        refused(x, "b^100", 1, 3);
        refused(x, "T25(b)", 1, 4);
        Ledger.due("cut(1, 0)", x.cut(1, 0), NONE);
        Ledger.due("status(1)", x.status(1), 5);
        Ledger.sentence("2 a first coefficient, ORDER that can't be;");
        String[] second = {"1/0", "1/x", "x/x^2", "T1(0)/x^2", "L(2)", "E(1)", "R(1)", "R(x^2)", "Q2(0)", "C(x,1)"};
        for (int i = 0; i < second.length; i++) {
            refused(x, second[i], 2, i + 1);
        }
        Ledger.sentence("3 PRIME would divide (S, L, Q);");
        refused(x, "S(x^6)", 3, 1);
        refused(x, "L(1+x)", 3, 2);
        refused(x, "Q7(1)", 3, 3);
        Ledger.sentence("4 no root;");
        refused(x, "Q2(3)", 4, 1);
        refused(x, "Q3(2)", 4, 2);
        refused(x, "Q9(3+x)", 4, 3);
        Ledger.sentence("5 nothing would be known (a LENGTH 0: of / behind its v places, of D, of C).");
        refused(x, "T1(0)/x", 5, 1);
        refused(x, "T3(0)/x^3", 5, 2);
        refused(x, "D(T1(4))", 5, 3);
        // A C is known to a place at least: LENGTH of f and ORDER of g are 1 at least.
        comes(x, "C(T1(4),T1(0))", 4);
        comes(x, "C(T1(0),T1(0))", 0);
        status(x);
    }

    private static void status(SeriesDesk x) {
        Ledger.status(x, 5, 5, 10, 3, 3, 3);
    }

    private static void refused(SeriesDesk x, String expression, int want, int timesThen) {
        reason(x, expression, want);
        Ledger.due("step() of " + expression, x.step(), NONE);
        Ledger.due("status(" + want + ")", x.status(want), timesThen);
    }

    private static void firstReasons() {
        Ledger.sentence("Of a STEP the first one, EXPRS from the left on, within ahead of without.");
        String[] wrong = {"b", "1/0", "S(x^6)", "Q2(3)", "D(T1(1))"};
        int[] reasons = {0, 2, 3, 4, 5};
        for (int i = 0; i < wrong.length; i++) {
            SeriesDesk x = Ledger.desk("sp7m9");
            for (int j = 0; j < wrong.length; j++) {
                for (String form : new String[] {"F+G", "F-G", "(F)*(G)", "(F)/(G)", "C(F,G)", "H(F,G)", "H(x,F,x,G)",
                    "x+F*2+G", "D(F)+G", "C(x,F)*G", "(F)^2/(G)", "E(C(F,G))"}) {
                    reason(x, form.replace("F", wrong[i]).replace("G", wrong[j]), reasons[i]);
                }
            }
            SeriesDesk y = Ledger.desk("sp7m9");
            for (String form : new String[] {"D(F)", "S(F)", "L(F)", "E(F)", "R(F)", "Q7(F)", "Q2(F)", "T1(F)", "(F)^0",
                "x/(0*(F))", "C(F,1)", "C(1,1+(F))", "(F)/0", "L(E(1+(F)))"}) {
                reason(y, form.replace("F", wrong[i]), reasons[i]);
            }
        }
        SeriesDesk x = Ledger.desk("sp7m9");
        reason(x, "1/0*b", 2);
        reason(x, "1/(0*b)", 0);
        reason(x, "1/x+Q2(3)", 2);
        reason(x, "x+Q2(3)/x", 4);
        reason(x, "x/x^2+b", 2);
        reason(x, "L(2)+1000", 1);
    }
}
