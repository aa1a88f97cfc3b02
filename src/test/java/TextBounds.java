/** Sentences of the document on TEXTS: what a RING, a STEP, a SCRIPT is, and where their FAULT is. */
final class TextBounds {
    private static final int RING = 0;
    private static final int SCRIPT = 1;
    private static final int STEP = 2;
    private static final int NONE = Ledger.NONE;

    private TextBounds() {
    }

    static void all() {
        Ledger.section("Terms");
        rings();
        steps();
        atoms();
        functions();
        scripts();
        limits();
        blanks();
        faults();
        faultsOfLimits();
    }

    private static void fault(int sort, String told, int want) {
        Ledger.fault(sort, told, want);
    }

    private static void good(int sort, String... told) {
        Ledger.good(sort, told);
    }

    private static boolean prime(int n) {
        int divisors = 0;
        for (int d = 1; d <= n; d++) {
            divisors += n % d == 0 ? 1 : 0;
        }
        return divisors == 2;
    }

    /** A text with every number of one to three digits in it: wrong at its last digit if it is not among the good. */
    private static void numbers(int sort, String ahead, String behind, int low, int high, boolean primesAlone) {
        for (int n = 0; n < 1000; n++) {
            boolean can = n >= low && n <= high && (!primesAlone || prime(n));
            for (String digits : new String[] {"" + n, String.format("%02d", n), String.format("%03d", n)}) {
                fault(sort, ahead + digits + behind, can ? NONE : ahead.length() + digits.length() - 1);
            }
        }
    }

    /** Every byte behind a text: among the ending ones the text may end, behind the open ones it must go on. */
    private static void bytes(int sort, String ahead, String ending, String open) {
        for (char one = 1; one < 256; one++) {
            int want = ending.indexOf(one) >= 0 ? NONE : ahead.length() + (open.indexOf(one) >= 0 ? 1 : 0);
            fault(sort, ahead + one, want);
        }
    }

    private static void rings() {
        Ledger.sentence("A RING is a TEXT: s, then ITEMS, none or more: a letter, each once at most, "
            + "and a number (one to three digits):");
        good(RING, "s", "sp5", "sm5", "sp5m5", "sm5p5", "sp05m005");
        fault(RING, "", 0);
        fault(RING, "p5", 0);
        fault(RING, "sp", 2);
        fault(RING, "sm", 2);
        fault(RING, "s5", 1);
        fault(RING, "sp5m", 4);
        fault(RING, "sp5p5", 3);
        fault(RING, "sm5m5", 3);
        fault(RING, "sp5m5p5", 5);
        fault(RING, "sp5m5m5", 5);
        fault(RING, "sp5m5s", 5);
        bytes(RING, "", "s", " ");
        bytes(RING, "s", " ", "pm");
        bytes(RING, "sp", "2357", " ");
        bytes(RING, "sp5m5", " ", "");
        Ledger.sentence("p PRIME (2 .. 997, a prime; 7 without),");
        numbers(RING, "sp", "", 2, 997, true);
        numbers(RING, "sp", "m9", 2, 997, true);
        Ledger.due("PRIME of s", told("s").rule(0), 7);
        Ledger.due("PRIME of sm9", told("sm9").rule(0), 7);
        Ledger.due("PRIME of sp2", told("sp2").rule(0), 2);
        Ledger.due("PRIME of sp997", told("sp997").rule(0), 997);
        Ledger.due("PRIME of sm9p011", told("sm9p011").rule(0), 11);
        Ledger.sentence("m MOST (2 .. 24; 12).");
        numbers(RING, "sm", "", 2, 24, false);
        numbers(RING, "sm", " p11", 2, 24, false);
        Ledger.due("MOST of s", told("s").rule(1), 12);
        Ledger.due("MOST of sp11", told("sp11").rule(1), 12);
        Ledger.due("MOST of sm2", told("sm2").rule(1), 2);
        Ledger.due("MOST of sm24", told("sm24").rule(1), 24);
    }

    private static SeriesDesk told(String ring) {
        return Ledger.desk(ring);
    }

    private static void steps() {
        Ledger.sentence("A STEP is: a letter a to h, =, EXPR.");
        for (char one = 1; one < 256; one++) {
            fault(STEP, one + "=x", one >= 'a' && one <= 'h' ? NONE : one == ' ' ? 1 : 0);
        }
        bytes(STEP, "", "", "abcdefgh ");
        bytes(STEP, "a", "", "= ");
        fault(STEP, "", 0);
        fault(STEP, "a", 1);
        fault(STEP, "a=", 2);
        fault(STEP, "ax", 1);
        fault(STEP, "=x", 0);
        fault(STEP, "a=x=x", 3);
        for (int register = 0; register < 8; register++) {
            SeriesDesk x = Ledger.desk("sm4", (char) ('a' + register) + "=x");
            Ledger.due("the register of a letter", x.most(0), 1 << register);
        }
        Ledger.sentence("EXPR: TERM { + or - TERM };");
        good(STEP, "a=x", "a=x+x", "a=x-x", "a=x+x-x+x*x-x/x");
        good(STEP, "a=" + "x+".repeat(23) + "x", "a=" + "x-".repeat(23) + "x");
        fault(STEP, "a=+x", 2);
        fault(STEP, "a=-x", 2);
        fault(STEP, "a=x+", 4);
        fault(STEP, "a=x-", 4);
        fault(STEP, "a=x++x", 4);
        fault(STEP, "a=x+-x", 4);
        fault(STEP, "a=x+)", 4);
        Ledger.sentence("TERM: POWER { * or / POWER };");
        good(STEP, "a=x*x", "a=x/x", "a=x*x/x*x", "a=x^2*x^2/x^2");
        good(STEP, "a=" + "x*".repeat(23) + "x", "a=" + "x/".repeat(23) + "x", "a=" + "x^9*".repeat(23) + "x^9");
        fault(STEP, "a=*x", 2);
        fault(STEP, "a=/x", 2);
        fault(STEP, "a=x*", 4);
        fault(STEP, "a=x/", 4);
        fault(STEP, "a=x**x", 4);
        fault(STEP, "a=x*/x", 4);
        fault(STEP, "a=x*+x", 4);
        fault(STEP, "a=x x", 4);
        Ledger.sentence("POWER: ATOM [ ^ number (0 .. 99) ];");
        numbers(STEP, "a=x^", "", 0, 99, false);
        numbers(STEP, "a=(x+x)^", "*x", 0, 99, false);
        fault(STEP, "a=x^", 4);
        fault(STEP, "a=x^^2", 4);
        fault(STEP, "a=x^x", 4);
        fault(STEP, "a=x^-1", 4);
        fault(STEP, "a=x^(2)", 4);
        fault(STEP, "a=x^2^2", 5);
        good(STEP, "a=(x^2)^2", "a=1^2", "a=D(x)^2");
    }

    private static void atoms() {
        Ledger.sentence("ATOM: a number (0 .. 999) | x | a letter a to h | ( EXPR ) |");
        numbers(STEP, "a=", "", 0, 999, false);
        numbers(STEP, "a=x*(", "+x)", 0, 999, false);
        bytes(STEP, "a=", "0123456789xabcdefgh", " (DSLERQTCH");
        bytes(STEP, "a=x+", "0123456789xabcdefgh", " (DSLERQTCH");
        bytes(STEP, "a=x", " ", "+-*/^");
        bytes(STEP, "a=7", "0123456789 ", "+-*/^");
        bytes(STEP, "a=(x", ")", "+-*/^ ");
        bytes(STEP, "a=(x)", " ", "+-*/^");
        bytes(STEP, "a=x^2", "0123456789 ", "+-*/");
        bytes(SCRIPT, "a=x", " ", "+-*/^;");
        bytes(SCRIPT, "a=x;", "", "abcdefgh ");
        fault(STEP, "a=()", 3);
        fault(STEP, "a=(", 3);
        fault(STEP, "a=)", 2);
        fault(STEP, "a=(x", 4);
        fault(STEP, "a=(x,x)", 4);
        fault(STEP, "a=(x)x", 5);
    }

    private static void functions() {
        Ledger.sentence("D ( EXPR ) | S ( EXPR ) | L ( EXPR ) | E ( EXPR ) | R ( EXPR ) |");
        for (String letter : new String[] {"D", "S", "L", "E", "R"}) {
            good(STEP, "a=" + letter + "(x)", "a=" + letter + "(x+x*x)^2");
            bytes(STEP, "a=" + letter, "", " (");
            bytes(STEP, "a=" + letter + "(x", ")", "+-*/^ ");
            fault(STEP, "a=" + letter + "()", 4);
            fault(STEP, "a=" + letter + "2(x)", 3);
            fault(STEP, "a=" + letter + "(x,x)", 5);
        }
        Ledger.sentence("Q digit (2 .. 9) ( EXPR ) |");
        bytes(STEP, "a=Q", "", "23456789 ");
        for (int digit = 0; digit < 10; digit++) {
            fault(STEP, "a=Q" + digit + "(x)", digit < 2 ? 3 : NONE);
        }
        fault(STEP, "a=Q(x)", 3);
        fault(STEP, "a=Q02(x)", 3);
        fault(STEP, "a=Q10(x)", 3);
        fault(STEP, "a=Q20(x)", 4);
        bytes(STEP, "a=Q2", "", " (");
        bytes(STEP, "a=Q2(x", ")", "+-*/^ ");
        Ledger.sentence("T number (1 .. 24) ( EXPR ) |");
        numbers(STEP, "a=T", "(x)", 1, 24, false);
        fault(STEP, "a=T(x)", 3);
        bytes(STEP, "a=T12", "", " (");
        bytes(STEP, "a=T", "", "123456789 ");
        bytes(STEP, "a=T2(x", ")", "+-*/^ ");
        Ledger.sentence("C ( EXPR , EXPR ) |");
        good(STEP, "a=C(x,x)", "a=C(x+x,x*x)^2", "a=C(C(x,x),C(x,x))");
        bytes(STEP, "a=C", "", " (");
        bytes(STEP, "a=C(x", "", "+-*/^, ");
        bytes(STEP, "a=C(x,x", ")", "+-*/^ ");
        fault(STEP, "a=C()", 4);
        fault(STEP, "a=C(,x)", 4);
        fault(STEP, "a=C(x,)", 6);
        Ledger.sentence("H ( EXPR { , EXPR } ) (2 to 6 of them).");
        bytes(STEP, "a=H", "", " (");
        bytes(STEP, "a=H(x", "", "+-*/^, ");
        bytes(STEP, "a=H(x,x", ")", "+-*/^, ");
        bytes(STEP, "a=H(x,x,x,x,x", ")", "+-*/^, ");
        bytes(STEP, "a=H(x,x,x,x,x,x", ")", "+-*/^ ");
        for (int number = 1; number <= 7; number++) {
            String within = "x" + ",x".repeat(number - 1);
            fault(STEP, "a=H(" + within + ")", number == 1 ? 5 : number == 7 ? 15 : NONE);
        }
        fault(STEP, "a=H()", 4);
        fault(STEP, "a=H(x,)", 6);
        good(STEP, "a=H(H(x,x),H(x,x,x))");
        Ledger.sentence("Numbers have one to three digits.");
        good(STEP, "a=7", "a=77", "a=777", "a=x^9", "a=x^99", "a=x^099", "a=T1(x)", "a=T01(x)", "a=T001(x)");
        fault(STEP, "a=7777", 5);
        fault(STEP, "a=0007", 5);
        fault(STEP, "a=x^0009", 7);
        fault(STEP, "a=T0001(x)", 6);
        fault(RING, "sp0007", 5);
        fault(RING, "sm0007", 5);
    }

    private static void scripts() {
        Ledger.sentence("A SCRIPT (4 at most) is a TEXT: STEPS with ; between, 1 to 8.");
        fault(SCRIPT, "", 0);
        fault(SCRIPT, ";", 0);
        fault(SCRIPT, "a=x;", 4);
        fault(SCRIPT, "a=x;;a=x", 4);
        fault(SCRIPT, "a=x,a=x", 3);
        fault(SCRIPT, "a=(x;a=x)", 4);
        fault(SCRIPT, "a=C(x;x)", 5);
        for (int number = 1; number <= 10; number++) {
            String told = "a=x" + ";a=x".repeat(number - 1);
            fault(SCRIPT, told, number > 8 ? 31 : NONE);
            fault(STEP, told, number > 1 ? 3 : NONE);
        }
        SeriesDesk x = new SeriesDesk();
        for (int number = 0; number < 4; number++) {
            Ledger.script(x, "a=" + number, number);
        }
        Texts.tell(x, "a=4");
        Ledger.due("fault(1) of a fifth SCRIPT", x.fault(1), NONE);
        Ledger.due("text(1) of a fifth SCRIPT", x.text(1), NONE);
        Ledger.due("count(1)", x.count(1), 4);
        Ledger.due("bytes of the TAPE", x.count(2), 3);
    }

    private static void limits() {
        Ledger.sentence("Within one another are 8 brackets at most (with those of D to H);");
        for (String kind : new String[] {"(", "D(", "S(", "L(", "E(", "R(", "Q2(", "T24(", "C(", "C(x,", "H(", "H(x,"}) {
            int bracket = kind.indexOf('(');
            String behind = kind.equals("C(") || kind.equals("H(") ? ",x)" : ")";
            good(STEP, "a=" + kind.repeat(8) + "x" + behind.repeat(8));
            fault(STEP, "a=" + kind.repeat(9) + "x" + behind.repeat(9), 2 + 8 * kind.length() + bracket);
            good(STEP, "a=((((" + kind.repeat(4) + "x" + behind.repeat(4) + "))))");
            fault(STEP, "a=((((" + kind.repeat(5) + "x" + behind.repeat(5) + "))))", 6 + 4 * kind.length() + bracket);
        }
        String eight = "((((((((x))))))))";
        good(STEP, "a=" + eight + "+" + eight + "*" + eight + "/" + eight);
        good(STEP, "a=H((((((((x)))))))" + ",(((((((x)))))))".repeat(5) + ")");
        fault(STEP, "a=H(x,(((((((x))))))),((((((((x)))))))))", 29);
        good(SCRIPT, "a=" + eight + ";a=" + eight);
        Ledger.sentence("of ATOMS a STEP has 24 at most.");
        String eightAtoms = "D(S(L(E(R(Q2(T3((x))))))))";
        String[] sixes = {"1+1+1+1+1+1", "x*x*x*x*x*x", "a-b-c-d-e-f", "D(x)+S(x)+L(x)", "E(x)*R(x)*Q2(x)",
            "T2(T2(T2(T2(T2(x)))))", "C(x,x)-C(x,x)", "H(x,x,x,x,x)", "C(1,C(1,D(1)))", "(1)+((1))+1+1+(1)+1^9"};
        for (String six : sixes) {
            String twentyFour = "a=" + six + "+" + six + "+" + six + "+" + six;
            good(STEP, twentyFour);
            fault(STEP, twentyFour + "+x", twentyFour.length() + 1);
            good(SCRIPT, twentyFour + ";" + twentyFour);
        }
        good(STEP, "a=" + eightAtoms + "+" + eightAtoms + "+" + eightAtoms);
        fault(STEP, "a=" + eightAtoms + "+" + eightAtoms + "+" + eightAtoms + "+x", 83);
    }

    private static void blanks() {
        Ledger.sentence("Blanks (32) may stand between all signs, not within a number.");
        String[] signs = {"a", "=", "C", "(", "H", "(", "x", ",", "12", ")", "^", "3", "+", "Q", "2", "(", "b", ")", ",", "T", "24",
            "(", "(", "x", "-", "0", ")", "*", "x", "/", "D", "(", "h", ")", ")", ")"};
        String close = String.join("", signs);
        good(STEP, close, String.join(" ", signs), " " + String.join("   ", signs) + "  ");
        for (int at = 0; at <= signs.length; at++) {
            StringBuilder told = new StringBuilder();
            for (int i = 0; i < signs.length; i++) {
                told.append(i == at ? " " : "").append(signs[i]);
            }
            good(STEP, at == signs.length ? told + " " : told.toString());
        }
        good(RING, " s", "s ", " s p 5 m 5 ", "  s  m  24  p  997  ");
        good(SCRIPT, " a = x ; b = x ", "a=x ;b=x", "a=x; b=x");
        fault(RING, "sp2 3", 4);
        fault(RING, "sm2 4", 4);
        fault(STEP, "a=1 2", 4);
        fault(STEP, "a=x^1 2", 6);
        fault(STEP, "a=T1 2(x)", 5);
        for (char other : new char[] {9, 10, 11, 12, 13, 31, 33, 95, 133, 160, 255}) {
            fault(STEP, "a" + other + "=x", 1);
            fault(STEP, "a=x" + other, 3);
            fault(RING, other + "s", 0);
        }
        fault(STEP, " ", 1);
        fault(RING, "   ", 3);
        fault(SCRIPT, "a=x;  ", 6);
    }

    private static void faults() {
        Ledger.sentence("FAULT: the first byte at which no such TEXT can go on (the length, if it ends too early):");
        ends(RING, "s p 23 m 24", 1, 2, 5, 6, 7, 10, 11);
        ends(STEP, "a=C(H(x,1)^2,Q2(b))", 19);
        ends(STEP, "a=T2(x)+h*1/(x-c)", 7, 9, 11, 17);
        ends(SCRIPT, "a=x;b=D(a)^1;", 3, 10, 12);
        fault(STEP, "!a=1000;;", 0);
        fault(STEP, "a!=1000;;", 1);
        fault(STEP, "a=1000;;", 5);
        fault(STEP, "a=100;;", 5);
        fault(RING, "a=x", 0);
        fault(STEP, "s", 0);
        Ledger.sentence("a number out of bounds (of p: no prime) is wrong at its last digit,");
        fault(RING, "sp0", 2);
        fault(RING, "sp00", 3);
        fault(RING, "sp000", 4);
        fault(RING, "sp001", 4);
        fault(RING, "sp9", 2);
        fault(RING, "sp91", 3);
        fault(RING, "sp998", 4);
        fault(RING, "sp999", 4);
        fault(RING, "sp1m5", 2);
        fault(RING, "sp1!", 2);
        fault(RING, "sp1 7", 2);
        fault(RING, "sm1", 2);
        fault(RING, "sm001", 4);
        fault(RING, "sm25", 3);
        fault(RING, "sm100", 4);
        fault(STEP, "a=x^100", 6);
        fault(STEP, "a=x^100*", 6);
        fault(STEP, "a=T0", 3);
        fault(STEP, "a=T25(x)", 4);
        fault(STEP, "a=T000(x)", 5);
        fault(STEP, "a=T240(x)", 5);
        Ledger.sentence("a fourth digit itself, whatever stands ahead of it,");
        fault(RING, "sp0000", 5);
        fault(RING, "sp0007", 5);
        fault(RING, "sp1000", 5);
        fault(RING, "sp9999", 5);
        fault(RING, "sp99999", 5);
        fault(RING, "sm0000", 5);
        fault(RING, "sm9999", 5);
        fault(RING, "sm0024", 5);
        fault(STEP, "a=0000", 5);
        fault(STEP, "a=9999", 5);
        fault(STEP, "a=x^0000", 7);
        fault(STEP, "a=x^9999", 7);
        fault(STEP, "a=T0000(x)", 6);
        fault(STEP, "a=T9999(x)", 6);
        Ledger.sentence("a letter that was there,");
        fault(RING, "sp7p", 3);
        fault(RING, "sp7p7", 3);
        fault(RING, "sp7p0000", 3);
        fault(RING, "sm7 m7", 4);
        fault(RING, "sm7p7m7", 5);
        fault(RING, "sp7m7p7", 5);
    }

    /** Each beginning of a text is wrong at its length, but those whose length is told here are good. */
    private static void ends(int sort, String whole, int... goodOnes) {
        for (int n = 0; n <= whole.length(); n++) {
            int want = n;
            for (int one : goodOnes) {
                want = one == n ? NONE : want;
            }
            fault(sort, whole.substring(0, n), want);
        }
    }

    private static void faultsOfLimits() {
        Ledger.sentence("a ninth bracket that opens,");
        fault(STEP, "a=(((((((((", 10);
        fault(STEP, "a= ( ( ( ( ( ( ( ( (", 19);
        fault(STEP, "a=((((((((D(x)", 11);
        fault(STEP, "a=((((((((Q2(x)", 12);
        fault(STEP, "a=((((((((T2 (x)", 13);
        fault(STEP, "a=((((((((C(x,x)", 11);
        fault(STEP, "a=((((((((H(x,x)", 11);
        fault(STEP, "a=((((((((D", 11);
        fault(STEP, "a=((((((((Dx", 11);
        fault(STEP, "a=((((((((x))))))))+(((((((((", 28);
        fault(STEP, "a=D" + "(".repeat(9) + "x", 11);
        fault(STEP, "a=D" + "(".repeat(8) + "x", 12);
        fault(STEP, "a=D" + "(".repeat(7) + "x", 11);
        Ledger.sentence("the first sign of a 25th ATOM (a bracket alone is none),");
        String full = "a=" + "x+".repeat(24);
        for (String next : new String[] {"7", "777", "7777", "x", "a", "h", "D(x)", "S(x)", "L(x)", "E(x)", "R(x)", "Q2(x)",
            "Q", "T2(x)", "T0(x)", "C(x,x)", "H(x,x)", "D", "!"}) {
            fault(STEP, full + next, 50);
            fault(STEP, full + "  " + next, 52);
            fault(STEP, full + "(" + next, 51);
            fault(STEP, full + "((((((((" + next, 58);
        }
        fault(STEP, full, 50);
        fault(STEP, full + "(", 51);
        fault(STEP, full + "()", 51);
        fault(STEP, full + "(((((((((x", 58);
        good(STEP, "a=" + "(x)+".repeat(23) + "((x))^5");
        fault(STEP, "a=" + "(x)+".repeat(24) + "(x)", 99);
        fault(STEP, "a=" + "x+".repeat(23) + "D(x)", 50);
        fault(SCRIPT, "b=x;" + full + "x", 54);
        good(SCRIPT, full.substring(0, 49) + ";" + full.substring(0, 49));
        Ledger.sentence("the ; ahead of a ninth STEP,");
        String eight = "a=x;".repeat(7) + "a=x";
        good(SCRIPT, eight, eight + " ");
        fault(SCRIPT, eight + ";", 31);
        fault(SCRIPT, eight + " ;", 32);
        fault(SCRIPT, eight + ";a=x", 31);
        fault(SCRIPT, eight + ";!", 31);
        fault(SCRIPT, eight + "!", 31);
        Ledger.sentence("a seventh EXPR's , of an H,");
        fault(STEP, "a=H(1,2,3,4,5,6,", 15);
        fault(STEP, "a=H(1,2,3,4,5,6,7)", 15);
        fault(STEP, "a=H(1,2,3,4,5,6 ,7)", 16);
        fault(STEP, "a=H(H(1,2),2,3,4,5,6,7)", 20);
        fault(STEP, "a=H(H(1,2,3,4,5,6,7),2)", 17);
        good(STEP, "a=H(H(1,2,3,4,5,6),2,3,4,5,6)");
        Ledger.sentence("the ) behind one alone.");
        fault(STEP, "a=H(x)", 5);
        fault(STEP, "a=H( x )", 7);
        fault(STEP, "a=H((x))", 7);
        fault(STEP, "a=H(H(x,x))", 10);
        fault(STEP, "a=H(C(x,x))", 10);
        fault(STEP, "a=H(x", 5);
    }
}
