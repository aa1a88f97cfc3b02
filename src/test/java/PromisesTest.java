import java.util.NoSuchElementException;

/** Each promise of the document by hand: ordinary inputs, the edges that it names, wrong inputs. */
public final class PromisesTest {
    private static final int NONE = -1;
    private static final int HIDDEN = -1000000;
    private static final int LOW = Integer.MIN_VALUE;
    private static final int HIGH = Integer.MAX_VALUE;

    private static int wrong;
    private static int made;
    private static int promise;

    private PromisesTest() {
    }

    public static void main(String[] args) {
        newObject();
        feed();
        end();
        faultOfRings();
        faultOfSteps();
        faultOfScripts();
        text();
        rule();
        step();
        lengths();
        reasons();
        would();
        why();
        known();
        coefficient();
        order();
        cut();
        drop();
        swap();
        perform();
        years();
        status();
        undo();
        log();
        alike();
        value();
        newton();
        solve();
        starts();
        recur();
        one();
        sums();
        run();
        target();
        most();
        image();
        back();
        count();
        System.out.println(wrong == 0 ? made + " answers are as due" : wrong + " answers are not as due");
        if (wrong != 0) {
            System.exit(1);
        }
    }

    private static void due(String call, long got, long want) {
        made++;
        if (got != want) {
            wrong++;
            System.out.println("promise " + promise + ": " + call + " answered " + got + ", due is " + want);
        }
    }

    private static SeriesDesk desk(String ring, String... steps) {
        SeriesDesk x = new SeriesDesk();
        Texts.tell(x, ring);
        due("text(0) of " + ring, x.text(0) > 0 ? 1 : 0, 1);
        for (String one : steps) {
            Texts.tell(x, one);
            due("step " + one, x.step() > 0 ? 1 : 0, 1);
        }
        return x;
    }

    private static void script(SeriesDesk x, String told, int number) {
        Texts.tell(x, told);
        due("text(1) of " + told, x.text(1), number);
    }

    private static void fault(int sort, String told, int want) {
        SeriesDesk x = new SeriesDesk();
        Texts.tell(x, told);
        due("fault(" + sort + ") of \"" + told + "\"", x.fault(sort), want);
        due("bytes of \"" + told + "\"", x.count(2), told.length());
    }

    /** A register's coefficients, all that are known. */
    private static void row(SeriesDesk x, int register, int... want) {
        due("known(" + register + ")", x.known(register), want.length);
        for (int i = 0; i < want.length && i < x.known(register); i++) {
            due("coefficient(" + register + ", " + i + ")", x.coefficient(register, i), want[i]);
        }
        due("coefficient behind", thrown(x, register, want.length), 1);
    }

    private static int thrown(SeriesDesk x, int register, int i) {
        try {
            x.coefficient(register, i);
            return 0;
        } catch (NoSuchElementException e) {
            return 1;
        }
    }

    private static void comes(SeriesDesk x, String told, int... want) {
        Texts.tell(x, told);
        due("would(-1) of " + told, x.would(NONE), want.length);
        for (int i = 0; i < want.length; i++) {
            due("would(" + i + ") of " + told, x.would(i), want[i]);
        }
    }

    private static void reason(SeriesDesk x, String told, int want) {
        Texts.tell(x, told);
        due("why() of " + told, x.why(), want);
        if (want != NONE) {
            int before = x.status(want);
            due("would(-1) of " + told, x.would(NONE), HIDDEN);
            due("step() of " + told, x.step(), NONE);
            due("status behind " + told, x.status(want), before + 1);
            due("the tape behind " + told, x.count(2), told.length());
        }
    }

    private static void length(SeriesDesk x, String told, int want) {
        Texts.tell(x, told);
        due("would(-1) of " + told, x.would(NONE), want);
    }

    private static void newObject() {
        promise = 1;
        SeriesDesk x = new SeriesDesk();
        due("rule(0)", x.rule(0), NONE);
        for (int what = 0; what < 5; what++) {
            due("count", x.count(what), 0);
        }
        for (int what = 0; what < 6; what++) {
            due("status", x.status(what), 0);
        }
        due("known(0)", x.known(0), NONE);
        due("NONE", SeriesDesk.NONE, -1);
        due("HIDDEN", SeriesDesk.HIDDEN, -1000000);
    }

    private static void feed() {
        promise = 2;
        SeriesDesk x = new SeriesDesk();
        due("feed of nothing", x.feed(0, 0, 0, 0, 0), 0);
        due("feed of two bytes", x.feed(0x61000000, 0, 0x3d, 0, 0), 2);
        due("feed of three bytes, 0 among them", x.feed(0, 0x31002b00, 0, 0, 0x32), 5);
        due("fault(2)", x.fault(2), NONE);
        due("feed of bytes above 127", x.feed(-1, 0x80000000, 0, 0, 0), 10);
        due("fault(2)", x.fault(2), 5);
        x.end(0);
        for (int i = 1; i <= 15; i++) {
            due("feed of twenty", x.feed(0x20202020, 0x20202020, 0x20202020, 0x20202020, 0x20202020), 20 * i);
        }
        due("feed of ten", x.feed(0x20202020, 0x20200000, 0x20202020, 0, 0), 310);
        due("feed of eleven", x.feed(0, 0x20, 0x20202020, 0x20202020, 0x20200000), NONE);
        due("feed of eleven", x.feed(0x20202020, 0x20202020, 0, 0x20202000, 0), NONE);
        due("feed of eleven", x.feed(0x20202020, 0x20202020, 0x20202000, 0, 0), NONE);
        due("count(2)", x.count(2), 310);
        due("feed of ten", x.feed(0x20202020, 0x20202020, 0x20200000, 0, 0), 320);
        due("feed of nothing", x.feed(0, 0, 0, 0, 0), 320);
        due("feed of one", x.feed(0, 0, 0, 0, 1), NONE);
        due("fault(0)", x.fault(0), 320);
        due("fault(1)", x.fault(1), 320);
    }

    private static void end() {
        promise = 3;
        SeriesDesk x = new SeriesDesk();
        Texts.tell(x, "a=1+x");
        due("end(-1)", x.end(-1) ? 1 : 0, 0);
        due("end(6)", x.end(6) ? 1 : 0, 0);
        due("end(high)", x.end(HIGH) ? 1 : 0, 0);
        due("end(low)", x.end(LOW) ? 1 : 0, 0);
        due("count(2)", x.count(2), 5);
        due("end(5)", x.end(5) ? 1 : 0, 1);
        due("fault(2)", x.fault(2), NONE);
        due("end(4)", x.end(4) ? 1 : 0, 1);
        due("fault(2)", x.fault(2), 4);
        due("end(5)", x.end(5) ? 1 : 0, 0);
        due("end(3)", x.end(3) ? 1 : 0, 1);
        due("fault(2)", x.fault(2), NONE);
    }

    private static void faultOfRings() {
        promise = 4;
        due("fault(3)", new SeriesDesk().fault(3), -2);
        due("fault(-1)", new SeriesDesk().fault(-1), -2);
        due("fault(high)", new SeriesDesk().fault(HIGH), -2);
        fault(0, "", 0);
        fault(0, "   ", 3);
        fault(0, "s", NONE);
        fault(0, "S", 0);
        fault(0, "s p2 m2", NONE);
        fault(0, "sm24p997", NONE);
        fault(0, "sp", 2);
        fault(0, "sp ", 3);
        fault(0, "spm", 2);
        fault(0, "sq7", 1);
        fault(0, "sp7 7", 4);
        fault(0, "sp1 3", 2);
        fault(0, "sp007m02", NONE);
        fault(0, "sp0", 2);
        fault(0, "sp1", 2);
        fault(0, "sp4", 2);
        fault(0, "sp91", 3);
        fault(0, "sp961", 4);
        fault(0, "sp999", 4);
        fault(0, "sp9999", 5);
        fault(0, "sp1000", 5);
        fault(0, "sp0000", 5);
        fault(0, "sm1", 2);
        fault(0, "sm0", 2);
        fault(0, "sm25", 3);
        fault(0, "sm240", 4);
        fault(0, "sm2400", 5);
        fault(0, "sm3m3", 3);
        fault(0, "sp3p", 3);
        fault(0, "sp3m3p3", 5);
        fault(0, "sp3m3 ;", 6);
        fault(0, "s" + (char) 160 + "p7", 1);
    }

    private static void faultOfSteps() {
        fault(2, " a = b ", NONE);
        fault(2, "x=1", 0);
        fault(2, "A=1", 0);
        fault(2, "h", 1);
        fault(2, "h=", 2);
        fault(2, "h==1", 2);
        fault(2, "a=1 2", 4);
        fault(2, "a=1234", 5);
        fault(2, "a=0000", 5);
        fault(2, "a=-1", 2);
        fault(2, "a=1-", 4);
        fault(2, "a=1--1", 4);
        fault(2, "a=ab", 3);
        fault(2, "a=2x", 3);
        fault(2, "a=y", 2);
        fault(2, "a=x^", 4);
        fault(2, "a=x^x", 4);
        fault(2, "a=x^099", NONE);
        fault(2, "a=x^999", 6);
        fault(2, "a=x^9999", 7);
        fault(2, "a=x^ 2 ^ 3", 7);
        fault(2, "a=(x^2)^3", NONE);
        fault(2, "a=()", 3);
        fault(2, "a=(1", 4);
        fault(2, "a=1)", 3);
        fault(2, "a=(1,2)", 4);
        fault(2, "a=D", 3);
        fault(2, "a=Dx", 3);
        fault(2, "a=D()", 4);
        fault(2, "a=D(x,x)", 5);
        fault(2, "a=D S(x)", 4);
        fault(2, "a=D(S(L(E(R(x)))))", NONE);
        fault(2, "a=Q(x)", 3);
        fault(2, "a=Q0(x)", 3);
        fault(2, "a=Q1(x)", 3);
        fault(2, "a=Q22(x)", 4);
        fault(2, "a=Q12(x)", 3);
        fault(2, "a = Q 2 ( x )", NONE);
        fault(2, "a=T(x)", 3);
        fault(2, "a=T0(x)", 3);
        fault(2, "a=T00(x)", 4);
        fault(2, "a=T024(x)", NONE);
        fault(2, "a=T025(x)", 5);
        fault(2, "a=T0024(x)", 6);
        fault(2, "a=T9999(x)", 6);
        fault(2, "a=T2 4(x)", 5);
        fault(2, "a=T24 x", 6);
        fault(2, "a=C(x)", 5);
        fault(2, "a=C(x,)", 6);
        fault(2, "a=C(x,x", 7);
        fault(2, "a=C(x,x)", NONE);
        fault(2, "a=C(x,x,x)", 7);
        fault(2, "a=H(x)", 5);
        fault(2, "a=H(x )", 6);
        fault(2, "a=H(x,x)", NONE);
        fault(2, "a=H(1,2,3,4,5,6)", NONE);
        fault(2, "a=H(1,2,3,4,5,6 ,7)", 16);
        fault(2, "a=H(1,2,3,4,5,6+", 16);
        fault(2, "a=((((((((x))))))))", NONE);
        fault(2, "a=(((((((((x)))))))))", 10);
        fault(2, "a=D(D(D(D(D(D(D(D(x))))))))", NONE);
        fault(2, "a=D(D(D(D(D(D(D(D(D (x)))))))))", 20);
        fault(2, "a=C(x,H(x,C(x,H(x,C(x,H(x,T3(Q2((", 32);
        fault(2, "a=(x)+(x)+(x)+(x)+(x)+(x)+(x)+(x)+(x)+((((((((x))))))))", NONE);
        fault(2, "a=" + "1+".repeat(23) + "1", NONE);
        fault(2, "a=" + "1+".repeat(24) + "12", 50);
        fault(2, "a=" + "1+".repeat(24), 50);
        fault(2, "a=" + "1+".repeat(24) + ")", 50);
        fault(2, "a=" + "1+".repeat(24) + " ((x", 53);
        fault(2, "a=" + "(1)+".repeat(23) + "1", NONE);
        fault(2, "a=" + "D(x)+".repeat(12) + "1", 62);
        fault(2, "a=" + "D(x)+".repeat(11) + "D(x)", NONE);
        fault(2, "a=" + "D(x)*".repeat(11) + "x*D(x)", 61);
        fault(2, "a=" + "x*".repeat(24) + "9999", 50);
        fault(2, "a=1" + (char) 1, 3);
        fault(2, "a=" + (char) 255, 2);
        fault(2, "a=" + "C(".repeat(8) + "x" + ",x)".repeat(8), NONE);
        fault(2, "a=" + "C(".repeat(9) + "x" + ",x)".repeat(9), 19);
        fault(2, "a=" + "C(x,".repeat(9), 35);
        fault(2, "a=" + "H(".repeat(9), 19);
        fault(2, "a=" + "T9(".repeat(9), 28);
        fault(2, "a=1;b=2", 3);
        fault(2, "a=1;", 3);
    }

    private static void faultOfScripts() {
        fault(1, "a=1", NONE);
        fault(1, " a = 1 ; b = a ", NONE);
        fault(1, "a=1;", 4);
        fault(1, "a=1;;", 4);
        fault(1, ";a=1", 0);
        fault(1, "a=(1;b=2)", 4);
        fault(1, "a=1;b", 5);
        fault(1, "a=1,b=2", 3);
        fault(1, "a=1;".repeat(7) + "a=1", NONE);
        fault(1, "a=1;".repeat(8) + "a=1", 31);
        fault(1, "a=1;".repeat(7) + "a=1 ; ", 32);
        String twentyFour = "a=" + "1+".repeat(23) + "1";
        fault(1, twentyFour + ";" + twentyFour, NONE);
        fault(1, twentyFour + ";" + twentyFour + "+1", 2 * twentyFour.length() + 2);
    }

    private static void text() {
        promise = 5;
        SeriesDesk x = new SeriesDesk();
        due("text(0) of nothing", x.text(0), NONE);
        script(x, "a=1+x", 0);
        due("count(2)", x.count(2), 0);
        Texts.tell(x, "s p 11 m 9");
        due("text(-1)", x.text(-1), NONE);
        due("text(2)", x.text(2), NONE);
        due("text(1)", x.text(1), NONE);
        due("count(2)", x.count(2), 10);
        due("text(0)", x.text(0), 11);
        due("count(2)", x.count(2), 0);
        due("perform(0)", x.perform(0), 1);
        due("cut(7, 1)", x.cut(7, 1), NONE);
        due("image()", x.image(), 1);
        Texts.tell(x, "sp4");
        due("text(0)", x.text(0), NONE);
        due("rule(0)", x.rule(0), 11);
        due("known(0)", x.known(0), 9);
        due("count(2)", x.count(2), 3);
        Texts.tell(x, "sp11m9");
        due("text(0)", x.text(0), 11);
        due("registers", x.count(0), 0);
        due("known(0)", x.known(0), 0);
        due("log", x.count(3), 0);
        due("acts", x.count(4), 0);
        due("undo()", x.undo(), NONE);
        due("back()", x.back(), NONE);
        due("scripts", x.count(1), 1);
        due("status(0)", x.status(0), 1);
        script(x, "b=1", 1);
        script(x, "b=2", 2);
        script(x, "b=3", 3);
        Texts.tell(x, "b=4");
        due("text(1)", x.text(1), NONE);
        due("perform(4)", x.perform(4), NONE);
        due("run(4, 0)", x.run(4, 0), HIDDEN);
        due("target(4, 0)", x.target(4, 0), NONE);
        due("count(2)", x.count(2), 3);
        due("count(1)", x.count(1), 4);
    }

    private static void rule() {
        promise = 6;
        SeriesDesk x = desk("s");
        due("rule(0)", x.rule(0), 7);
        due("rule(1)", x.rule(1), 12);
        due("rule(-1)", x.rule(-1), NONE);
        due("rule(2)", x.rule(2), NONE);
        x = desk("sp2m2");
        due("rule(0)", x.rule(0), 2);
        due("rule(1)", x.rule(1), 2);
        due("rule(1)", new SeriesDesk().rule(1), NONE);
    }

    private static void step() {
        promise = 7;
        SeriesDesk x = new SeriesDesk();
        Texts.tell(x, "a=1000");
        due("step()", x.step(), NONE);
        due("status(0)", x.status(0), 1);
        due("status(1)", x.status(1), 0);
        x = desk("s");
        Texts.tell(x, "a=b+1000");
        due("step()", x.step(), NONE);
        due("status(0)", x.status(0), 0);
        due("status(1)", x.status(1), 1);
        due("count(2)", x.count(2), 8);
        Texts.tell(x, " c = 1 / ( 1 - x - x ^ 2 ) ");
        due("step()", x.step(), 12);
        due("count(2)", x.count(2), 0);
        row(x, 2, 1, 1, 2, 3, 5, 1, 6, 0, 6, 6, 5, 4);
        x = desk("sp101m6");
        comes(x, "a=999", 90, 0, 0, 0, 0, 0);
        comes(x, "a=1-2-3", 97, 0, 0, 0, 0, 0);
        comes(x, "a=8/2/2", 2, 0, 0, 0, 0, 0);
        comes(x, "a=1+2*x^2-x*3", 1, 98, 2, 0, 0, 0);
        comes(x, "a=2*x^2*3", 0, 0, 6, 0, 0, 0);
        comes(x, "a=(1+x)^3", 1, 3, 3, 1, 0, 0);
        comes(x, "a=1+x^3", 1, 0, 0, 1, 0, 0);
        comes(x, "a=E(x)", 1, 1, 51, 17, 80, 16);
        comes(x, "a=L(1+x)", 0, 1, 50, 34, 25, 81);
        comes(x, "a=R(x-x^2)", 0, 1, 1, 2, 5, 14);
        comes(x, "a=Q2(1-4*x)", 1, 99, 99, 97, 91, 73);
        comes(x, "a=C(1/(1-x),x/(1-x))", 1, 1, 2, 4, 8, 16);
        comes(x, "a=H(1/(1-2*x),1/(1-3*x))", 1, 6, 36, 14, 84, 100);
        comes(x, "a=H(1+x,2+x,3+x,4+x,5+x,6+x)", 13, 1, 0, 0, 0, 0);
        comes(x, "a=D(x^3+5)", 0, 0, 3, 0, 0);
        comes(x, "a=S(1+2*x)", 0, 1, 1, 0, 0, 0);
        comes(x, "a=T3(7+8*x+9*x^2+x^3)", 7, 8, 9);
        comes(x, "a=Q9((2+x)^9)", 2, 1, 0, 0, 0, 0);
        comes(x, "a=(x^2+x^3)/(x+x^2)", 0, 1, 0, 0, 0);
        comes(desk("sp2m6"), "a=1-x+3*x^2", 1, 1, 1, 0, 0, 0);
        comes(desk("sp2m6"), "a=R(x+x^2)", 0, 1, 1, 0, 1, 0);
        comes(desk("sp3m4"), "a=R(x+x^2)", 0, 1, 2, 2);
        comes(desk("sp7m4"), "a=Q2(2)", 3, 0, 0, 0);
        comes(desk("sp3m5"), "a=Q2((1+x^3)^2)", 1, 0, 0, 1, 0);
        x = desk("sp7m4", "a=1+x", "a=a*a", "a=a+a");
        row(x, 0, 2, 4, 2, 0);
    }

    private static void lengths() {
        SeriesDesk x = desk("s");
        length(x, "a=x", 12);
        length(x, "a=0", 12);
        length(x, "a=T5(x)+T3(x)", 3);
        length(x, "a=T3(x)-T5(x)", 3);
        length(x, "a=T5(x)*T3(1+x)", 4);
        length(x, "a=T3(1+x)*T5(x)", 4);
        length(x, "a=T3(0)*T2(0)", 5);
        length(x, "a=x*x", 12);
        length(x, "a=T1(0)*x^11", 12);
        length(x, "a=T1(0)*x^12", 12);
        length(x, "a=T3(x)^4", 6);
        length(x, "a=T2(0)^3", 6);
        length(x, "a=T9(x)^9", 12);
        length(x, "a=T1(5)^0", 12);
        length(x, "a=T4(x)^1", 4);
        length(x, "a=T4(1+x)^99", 4);
        length(x, "a=T4(x^2)/T3(x)", 3);
        length(x, "a=T6(x^3)/T2(x)", 3);
        length(x, "a=T4(0)/x", 3);
        length(x, "a=1/T3(2)", 3);
        length(x, "a=D(T2(x))", 1);
        length(x, "a=S(T3(x))", 4);
        length(x, "a=S(T6(1))", 7);
        length(x, "a=S(T7(1))", 7);
        length(x, "a=S(1)", 7);
        length(x, "a=S(T6(x^6))", 7);
        length(desk("sp7m7"), "a=S(x^6)", 7);
        length(desk("sp13m12"), "a=S(x^11)", 12);
        comes(x, "a=L(T1(1))", 0);
        length(x, "a=L(T7(1+x))", 7);
        length(x, "a=L(1)", 7);
        length(x, "a=E(T3(x))", 3);
        length(x, "a=E(x)", 7);
        comes(x, "a=E(T1(0))", 1);
        length(x, "a=R(T2(x))", 2);
        length(x, "a=R(x)", 12);
        length(x, "a=Q3(T5(1+x))", 5);
        length(x, "a=T24(x)", 12);
        length(x, "a=T9(T4(x))", 4);
        length(x, "a=C(T2(1+x),T3(x))", 2);
        length(x, "a=C(T4(x^2),T3(x))", 4);
        length(x, "a=C(T9(x^3),T2(x))", 4);
        length(x, "a=C(T2(0),T3(x^2))", 4);
        length(x, "a=C(T2(1+x),T3(0))", 3);
        length(x, "a=C(T2(1),T3(0))", 6);
        length(x, "a=C(1,T1(0))", 12);
        length(x, "a=H(T5(x),T3(x),T4(x))", 3);
        comes(x, "a=C(T1(2),x)", 2);
        x = desk("sp29m24", "a=1/(1-x)", "b=x*a", "c=0");
        String[] full = {"a+b", "a-b", "c*c", "c+c", "c/a", "a/a", "S(a)", "L(a)", "E(b)", "R(b)", "Q2(a)", "Q3(a)",
            "C(a,b)", "C(c,b)", "C(a,c)", "H(a,b)", "b^2", "b^99", "a^99", "c^99", "T24(a)"};
        for (String one : full) {
            length(x, "d=" + one, 24);
        }
        length(x, "d=D(a)", 23);
        length(x, "d=b/b", 23);
        due("one of 0, to 24", x.one(2), NONE);
        due("recur of 0, to 24", x.recur(2, 0), 0);
        due("order of 0, to 24", x.order(2), 24);
        due("alike, to 24", x.alike(0, 0), 24);
        due("sums, to 24", x.sums(0, 23), 24);
        due("solve, to 24", x.solve(1, 0, NONE, NONE, 0, 23), 0);
        due("known in all", x.most(3), 72);
        due("known in all, not 0", x.most(4), 47);
    }

    private static void reasons() {
        SeriesDesk x = desk("s");
        reason(x, "a=b", 0);
        reason(x, "a=b+1/0", 0);
        reason(x, "a=1/0+b", 2);
        reason(x, "a=1/x*b", 2);
        reason(x, "a=1/(x*b)", 0);
        reason(x, "a=C(1/0,b)", 2);
        reason(x, "a=C(b,1/0)", 0);
        reason(x, "a=H(1,1/0,b)", 2);
        reason(x, "a=b^0", 0);
        reason(x, "a=b*1000", 1);
        reason(x, "a=1/0", 2);
        reason(x, "a=1/7", 2);
        reason(x, "a=x/x^2", 2);
        reason(x, "a=T1(0)/x^2", 2);
        reason(x, "a=T1(0)/x", 5);
        reason(x, "a=T2(x)/x", NONE);
        reason(x, "a=0/x", NONE);
        reason(x, "a=D(T1(x))", 5);
        reason(x, "a=D(D(T2(x)))", 5);
        reason(x, "a=S(x^6)", 3);
        reason(x, "a=S(x^5)", NONE);
        reason(x, "a=S(T7(x^6))", 3);
        reason(x, "a=L(1+x)", 3);
        reason(x, "a=L(2+x)", 2);
        reason(x, "a=L(T1(2))", 2);
        reason(x, "a=E(1+x)", 2);
        reason(x, "a=R(1+x)", 2);
        reason(x, "a=R(x^2)", 2);
        reason(x, "a=R(T1(x))", 2);
        reason(x, "a=R(T2(x))", NONE);
        reason(x, "a=Q2(x)", 2);
        reason(x, "a=Q7(x)", 2);
        reason(x, "a=Q7(2)", 3);
        reason(x, "a=Q2(3)", 4);
        reason(x, "a=Q3(2)", 4);
        reason(x, "a=Q3(6)", NONE);
        reason(x, "a=C(x,1+x)", 2);
        reason(x, "a=Q2(E(L(2)))", 2);
        reason(desk("sp2"), "a=Q8(1)", 3);
        reason(desk("sp3"), "a=Q9(1)", 3);
        reason(desk("sp2"), "a=Q9(1)", NONE);
    }

    private static void would() {
        promise = 8;
        SeriesDesk x = new SeriesDesk();
        Texts.tell(x, "a=1");
        due("would(0)", x.would(0), HIDDEN);
        x = desk("sp7m4");
        Texts.tell(x, "a=3+5*x");
        due("would(0)", x.would(0), 3);
        due("would(1)", x.would(1), 5);
        due("would(3)", x.would(3), 0);
        due("would(4)", x.would(4), HIDDEN);
        due("would(-1)", x.would(NONE), 4);
        due("would(-2)", x.would(-2), HIDDEN);
        due("would(low)", x.would(LOW), HIDDEN);
        due("would(high)", x.would(HIGH), HIDDEN);
        due("known(0)", x.known(0), 0);
        due("count(2)", x.count(2), 7);
        due("count(4)", x.count(4), 0);
        Texts.tell(x, "a=b");
        due("would(0)", x.would(0), HIDDEN);
        Texts.tell(x, "a=1+");
        due("would(0)", x.would(0), HIDDEN);
        due("status(0)", x.status(0), 0);
    }

    private static void why() {
        promise = 9;
        SeriesDesk x = new SeriesDesk();
        due("why()", x.why(), 0);
        Texts.tell(x, "a=1");
        due("why()", x.why(), 0);
        x = desk("s");
        due("why()", x.why(), 1);
        Texts.tell(x, "a=1");
        due("why()", x.why(), NONE);
        Texts.tell(x, "a=h");
        due("why()", x.why(), 0);
        due("status(0)", x.status(0), 0);
        Texts.tell(x, "a=1/x;");
        due("why()", x.why(), 1);
    }

    private static void known() {
        promise = 10;
        SeriesDesk x = desk("s", "h=T3(x)");
        due("known(7)", x.known(7), 3);
        due("known(0)", x.known(0), 0);
        due("known(8)", x.known(8), NONE);
        due("known(-1)", x.known(-1), NONE);
        due("known(low)", x.known(LOW), NONE);
        due("known(high)", x.known(HIGH), NONE);
    }

    private static void coefficient() {
        promise = 11;
        SeriesDesk x = desk("s", "h=T3(4+x)");
        due("coefficient(7, 0)", x.coefficient(7, 0), 4);
        due("coefficient(7, 1)", x.coefficient(7, 1), 1);
        due("coefficient(7, 2)", x.coefficient(7, 2), 0);
        due("coefficient(7, 3)", thrown(x, 7, 3), 1);
        due("coefficient(7, -1)", thrown(x, 7, -1), 1);
        due("coefficient(0, 0)", thrown(x, 0, 0), 1);
        due("coefficient(8, 0)", thrown(x, 8, 0), 1);
        due("coefficient(-1, 0)", thrown(x, -1, 0), 1);
        due("coefficient(-1, 24)", thrown(x, -1, 24), 1);
        due("coefficient(high, high)", thrown(x, HIGH, HIGH), 1);
        due("coefficient(low, low)", thrown(x, LOW, LOW), 1);
        due("coefficient(0, 0)", thrown(new SeriesDesk(), 0, 0), 1);
    }

    private static void order() {
        promise = 12;
        SeriesDesk x = desk("s", "a=1", "b=x^3", "c=T4(0)", "d=T2(x^5)");
        due("order(0)", x.order(0), 0);
        due("order(1)", x.order(1), 3);
        due("order(2)", x.order(2), 4);
        due("order(3)", x.order(3), 2);
        due("order(4)", x.order(4), NONE);
        due("order(8)", x.order(8), NONE);
        due("order(-1)", x.order(-1), NONE);
    }

    private static void cut() {
        promise = 13;
        SeriesDesk x = desk("s", "a=1+2*x+3*x^2+4*x^3");
        due("cut(0, 3)", x.cut(0, 3), 12);
        row(x, 0, 1, 2, 3);
        due("log", x.log(0, 0) * 100 + x.log(0, 1) * 10 + x.log(0, 2), 103);
        due("cut(0, 3)", x.cut(0, 3), NONE);
        due("cut(0, 4)", x.cut(0, 4), NONE);
        due("cut(0, high)", x.cut(0, HIGH), NONE);
        due("status(2)", x.status(2), 3);
        due("cut(0, 0)", x.cut(0, 0), NONE);
        due("cut(0, low)", x.cut(0, LOW), NONE);
        due("status(1)", x.status(1), 2);
        due("cut(1, 0)", x.cut(1, 0), NONE);
        due("cut(8, 0)", x.cut(8, 0), NONE);
        due("cut(-1, 1)", x.cut(-1, 1), NONE);
        due("status(0)", x.status(0), 3);
        due("cut(0, 1)", x.cut(0, 1), 3);
        due("count(4)", x.count(4), 3);
        due("undo()", x.undo(), 2);
        due("undo()", x.undo(), 1);
        due("coefficient(0, 3)", x.coefficient(0, 3), 4);
    }

    private static void drop() {
        promise = 14;
        SeriesDesk x = desk("s", "c=T5(x)");
        due("drop(2)", x.drop(2), 5);
        due("known(2)", x.known(2), 0);
        due("log", x.log(0, 0) * 100 + x.log(0, 1) * 10 + x.log(0, 2), 220);
        due("drop(2)", x.drop(2), NONE);
        due("drop(8)", x.drop(8), NONE);
        due("drop(-1)", x.drop(-1), NONE);
        due("status(0)", x.status(0), 3);
        due("undo()", x.undo(), 1);
        row(x, 2, 0, 1, 0, 0, 0);
    }

    private static void swap() {
        promise = 15;
        SeriesDesk x = desk("s", "a=T2(1+x)", "b=T3(5)");
        due("swap(0, 1)", x.swap(0, 1), 3);
        row(x, 0, 5, 0, 0);
        row(x, 1, 1, 1);
        due("log", x.log(0, 0) * 100 + x.log(0, 1) * 10 + x.log(0, 2), 303);
        due("swap(0, 7)", x.swap(0, 7), 0);
        due("log", x.log(0, 0) * 100 + x.log(0, 1) * 10 + x.log(0, 2), 300);
        due("known(7)", x.known(7), 3);
        due("swap(0, 7)", x.swap(0, 7), 3);
        due("swap(0, 0)", x.swap(0, 0), NONE);
        due("status(2)", x.status(2), 1);
        due("swap(4, 4)", x.swap(4, 4), NONE);
        due("swap(4, 5)", x.swap(4, 5), NONE);
        due("swap(0, 8)", x.swap(0, 8), NONE);
        due("swap(-1, 0)", x.swap(-1, 0), NONE);
        due("swap(8, 8)", x.swap(8, 8), NONE);
        due("status(0)", x.status(0), 5);
        due("status(2)", x.status(2), 1);
        due("undo()", x.undo(), 4);
        due("known(0)", x.known(0), 0);
    }

    private static void perform() {
        promise = 16;
        SeriesDesk x = new SeriesDesk();
        script(x, "a=1+x;b=a*a;a=b-a", 0);
        due("perform(0)", x.perform(0), NONE);
        Texts.tell(x, "sp7m3");
        x.text(0);
        due("perform(1)", x.perform(1), NONE);
        due("perform(-1)", x.perform(-1), NONE);
        due("perform(high)", x.perform(HIGH), NONE);
        due("status(0)", x.status(0), 4);
        due("perform(0)", x.perform(0), 3);
        row(x, 0, 0, 1, 1);
        row(x, 1, 1, 2, 1);
        due("count(3)", x.count(3), 3);
        due("count(4)", x.count(4), 1);
        due("log(0, 1)", x.log(0, 1), 0);
        due("log(1, 1)", x.log(1, 1), 1);
        due("log(2, 2)", x.log(2, 2), 3);
        script(x, "c=b;d=Q2(3)", 1);
        script(x, "c=b;d=e", 2);
        due("perform(1)", x.perform(1), NONE);
        due("status(4)", x.status(4), 1);
        due("perform(2)", x.perform(2), NONE);
        due("status(0)", x.status(0), 5);
        due("known(2)", x.known(2), 0);
        due("count(3)", x.count(3), 3);
        due("undo()", x.undo(), 0);
        due("count(0)", x.count(0), 0);
        due("count(3)", x.count(3), 0);
    }

    private static void years() {
        promise = 17;
        SeriesDesk x = new SeriesDesk();
        due("years(1, 1)", x.years(1, 1), NONE);
        x = desk("sp7m8");
        due("years(0, 1)", x.years(0, 1), NONE);
        due("years(41, 1)", x.years(41, 1), NONE);
        due("years(low, 1)", x.years(LOW, 1), NONE);
        due("count(3)", x.count(3), 0);
        // A seed by which the first year's draws are 3 (the register), 0 (two numbers times x), 5 and 2.
        long seed = seedOf(8, 3, 6, 0, 7, 5, 7, 2);
        due("years(1, seed)", x.years(1, seed), 1);
        row(x, 3, 5, 2, 0, 0, 0, 0, 0, 0);
        due("log", x.log(0, 0) * 100 + x.log(0, 1) * 10 + x.log(0, 2), 38);
        due("years: sum", x.years(1, seedOf(8, 0, 6, 1, 8, 3, 8, 3)), 2);
        row(x, 0, 3, 4, 0, 0, 0, 0, 0, 0);
        due("years: product", x.years(1, seedOf(8, 1, 6, 2, 8, 3, 8, 0)), 3);
        row(x, 1, 1, 5, 1, 0, 0, 0, 0, 0);
        due("years: D", x.years(1, seedOf(8, 1, 6, 3, 8, 1)), 3);
        row(x, 1, 5, 2, 0, 0, 0, 0, 0);
        due("years: 1 by it", x.years(1, seedOf(8, 2, 6, 4, 8, 1)), 4);
        due("coefficient(2, 0)", x.coefficient(2, 0), 3);
        due("years: T", x.years(1, seedOf(8, 7, 6, 5, 8, 3, 8, 0)), 5);
        row(x, 7, 5);
        due("count(4)", x.count(4), 6);
        due("years: an empty one", x.years(1, seedOf(8, 7, 6, 4, 8, 6)), 5);
        due("count(4)", x.count(4), 6);
        due("count(3)", x.count(3), 6);
        due("undo()", x.undo(), 5);
        due("known(7)", x.known(7), 0);
        for (int what = 0; what < 6; what++) {
            due("status", x.status(what), 0);
        }
        SeriesDesk y = desk("sp7m8");
        SeriesDesk z = desk("sp7m8");
        int full = y.years(40, 12345678901L);
        due("years(40)", z.years(40, 12345678901L), full);
        due("most(3)", y.most(3), z.most(3));
        due("count(0)", y.count(0), full);
    }

    /** The least seed by which draws of the even ones come to the odd ones. */
    private static long seedOf(int... draws) {
        for (long seed = 0; seed < 100000000L; seed++) {
            long x = seed;
            int i = 0;
            while (i < draws.length) {
                x = x * 6364136223846793005L + 1442695040888963407L;
                if ((x >>> 33) % draws[i] != draws[i + 1]) {
                    break;
                }
                i += 2;
            }
            if (i >= draws.length) {
                return seed;
            }
        }
        throw new IllegalStateException("no such seed");
    }

    private static void status() {
        promise = 18;
        SeriesDesk x = desk("s", "a=x");
        reason(x, "a=b", 0);
        reason(x, "a=", 1);
        reason(x, "a=1/x", 2);
        reason(x, "a=S(x^6)", 3);
        reason(x, "a=Q2(3)", 4);
        reason(x, "a=D(T1(1))", 5);
        x.cut(0, 12);
        x.swap(0, 0);
        int[] want = {1, 1, 3, 1, 1, 1};
        for (int what = 0; what < 6; what++) {
            due("status(" + what + ")", x.status(what), want[what]);
        }
        x.undo();
        due("status(2)", x.status(2), 3);
        due("status(6)", x.status(6), NONE);
        due("status(-1)", x.status(-1), NONE);
        due("status(high)", x.status(HIGH), NONE);
    }

    private static void undo() {
        promise = 19;
        SeriesDesk x = desk("s");
        due("undo()", x.undo(), NONE);
        for (int i = 0; i < 45; i++) {
            Texts.tell(x, "a=" + i);
            x.step();
        }
        due("count(4)", x.count(4), 40);
        for (int i = 0; i < 40; i++) {
            due("undo()", x.undo(), 39 - i);
            due("coefficient(0, 0)", x.coefficient(0, 0), (43 - i) % 7);
            due("count(3)", x.count(3), 44 - i);
        }
        due("undo()", x.undo(), NONE);
        due("coefficient(0, 0)", x.coefficient(0, 0), 4);
        Texts.tell(x, "b=1");
        due("step()", x.step(), 12);
        due("undo()", x.undo(), 0);
        due("known(1)", x.known(1), 0);
        due("known(0)", x.known(0), 12);
    }

    private static void log() {
        promise = 20;
        SeriesDesk x = desk("s", "b=T5(x)", "h=T1(1)");
        due("log(0, 0)", x.log(0, 0), 0);
        due("log(0, 1)", x.log(0, 1), 7);
        due("log(0, 2)", x.log(0, 2), 1);
        due("log(1, 1)", x.log(1, 1), 1);
        due("log(1, 2)", x.log(1, 2), 5);
        due("log(2, 0)", x.log(2, 0), HIDDEN);
        due("log(-1, 0)", x.log(-1, 0), HIDDEN);
        due("log(0, 3)", x.log(0, 3), HIDDEN);
        due("log(0, -1)", x.log(0, -1), HIDDEN);
        due("log(low, low)", x.log(LOW, LOW), HIDDEN);
        for (int i = 0; i < 70; i++) {
            Texts.tell(x, (char) ('a' + i % 7) + "=T" + (1 + i % 12) + "(x)");
            x.step();
        }
        due("count(3)", x.count(3), 60);
        for (int i = 0; i < 60; i++) {
            due("log(" + i + ", 1)", x.log(i, 1), (69 - i) % 7);
            due("log(" + i + ", 2)", x.log(i, 2), 1 + (69 - i) % 12);
        }
        due("log(60, 0)", x.log(60, 0), HIDDEN);
        // What the log had lost by an act is there again when the act is undone.
        for (int i = 0; i < 40; i++) {
            x.undo();
        }
        due("count(3)", x.count(3), 32);
        due("log(31, 1)", x.log(31, 1), 1);
        due("log(30, 1)", x.log(30, 1), 7);
        due("log(0, 1)", x.log(0, 1), 29 % 7);
    }

    private static void alike() {
        promise = 21;
        SeriesDesk x = desk("s", "a=1+x+x^2", "b=1+x+x^3", "c=T2(1+x)", "d=2");
        due("alike(0, 1)", x.alike(0, 1), 2);
        due("alike(0, 2)", x.alike(0, 2), 2);
        due("alike(2, 1)", x.alike(2, 1), 2);
        due("alike(0, 3)", x.alike(0, 3), 0);
        due("alike(0, 0)", x.alike(0, 0), 12);
        due("alike(0, 4)", x.alike(0, 4), NONE);
        due("alike(4, 4)", x.alike(4, 4), NONE);
        due("alike(8, 0)", x.alike(8, 0), NONE);
        due("alike(0, -1)", x.alike(0, -1), NONE);
    }

    private static void value() {
        promise = 22;
        SeriesDesk x = desk("sp7m4", "a=1+2*x+3*x^2", "b=T2(1+2*x)");
        due("value(0, 0)", x.value(0, 0), 1);
        due("value(0, 2)", x.value(0, 2), 3);
        due("value(0, 9)", x.value(0, 9), 3);
        due("value(0, 996)", x.value(0, 996), x.value(0, 996 % 7));
        due("value(1, 3)", x.value(1, 3), 0);
        due("value(0, 997)", x.value(0, 997), NONE);
        due("value(0, -1)", x.value(0, -1), NONE);
        due("value(2, 0)", x.value(2, 0), NONE);
        due("value(8, 0)", x.value(8, 0), NONE);
    }

    private static void newton() {
        promise = 23;
        SeriesDesk x = desk("sp7m12", "a=2+x", "b=x", "c=T3(1-x)", "d=T1(3)");
        due("newton(0, 0, -1)", x.newton(0, 0, NONE), 1);
        due("newton(0, 0, 0)", x.newton(0, 0, 0), 4);
        due("newton(0, 0, 1)", x.newton(0, 0, 1), NONE);
        due("newton(0, 1, 1)", x.newton(0, 1, 1), 5);
        due("newton(0, 2, 2)", x.newton(0, 2, 2), 1);
        due("newton(0, 3, -1)", x.newton(0, 3, NONE), 8);
        due("newton(0, 3, 8)", x.newton(0, 3, 8), NONE);
        due("newton(0, 4, -1)", x.newton(0, 4, NONE), 12);
        due("newton(0, 4, 11)", x.newton(0, 4, 11), 6);
        due("newton(0, 4, 12)", x.newton(0, 4, 12), NONE);
        due("newton(2, 2, -1)", x.newton(2, 2, NONE), 3);
        due("newton(2, 4, 2)", x.newton(2, 4, 2), 1);
        due("newton(3, 4, -1)", x.newton(3, 4, NONE), 1);
        due("newton(3, 4, 0)", x.newton(3, 4, 0), 5);
        due("newton(1, 0, -1)", x.newton(1, 0, NONE), NONE);
        due("newton(0, 5, 0)", x.newton(0, 5, 0), NONE);
        due("newton(0, -1, 0)", x.newton(0, -1, 0), NONE);
        due("newton(0, 1, -2)", x.newton(0, 1, -2), NONE);
        due("newton(4, 0, 0)", x.newton(4, 0, 0), NONE);
        due("newton(8, 0, 0)", x.newton(8, 0, 0), NONE);
    }

    private static void solve() {
        promise = 24;
        due("solve", new SeriesDesk().solve(NONE, NONE, NONE, NONE, 0, 0), NONE);
        // y - 1 - x y y = 0: the numbers of Catalan; c y = 1; y y y = 1 + x.
        SeriesDesk x = desk("sp101m8", "a=0-1", "b=1", "c=0-x", "d=T3(0-1-x)", "e=T5(1)");
        int[] catalan = {1, 1, 2, 5, 14, 42, 31, 25};
        for (int i = 0; i < 8; i++) {
            due("solve place " + i, x.solve(0, 1, 2, NONE, 1, i), catalan[i]);
        }
        due("solve length", x.solve(0, 1, 2, NONE, 1, NONE), 8);
        due("solve place 8", x.solve(0, 1, 2, NONE, 1, 8), NONE);
        due("solve place -2", x.solve(0, 1, 2, NONE, 1, -2), NONE);
        due("solve cubic length", x.solve(3, NONE, NONE, 4, 1, NONE), 3);
        due("solve cubic 0", x.solve(3, NONE, NONE, 4, 1, 0), 1);
        due("solve cubic 1", x.solve(3, NONE, NONE, 4, 1, 1), 34);
        due("solve cubic 2", x.solve(3, NONE, NONE, 4, 1, 2), 56);
        due("solve cubic 3", x.solve(3, NONE, NONE, 4, 1, 3), NONE);
        due("solve from 2", x.solve(0, 1, 2, NONE, 2, 0), NONE);
        due("solve from -1", x.solve(0, 1, 2, NONE, -1, 0), NONE);
        due("solve from 101", x.solve(0, 1, 2, NONE, 101, 0), NONE);
        due("solve from 102", x.solve(0, 1, 2, NONE, 102, 0), NONE);
        due("solve, y from 101", x.solve(NONE, 1, NONE, NONE, 101, 0), NONE);
        due("solve, y y from 0", x.solve(NONE, NONE, 1, NONE, 0, 0), NONE);
        due("solve, y from 0", x.solve(NONE, 1, NONE, NONE, 0, 5), 0);
        due("solve, y from 0: length", x.solve(NONE, 1, NONE, NONE, 0, NONE), 8);
        due("solve of nothing", x.solve(NONE, NONE, NONE, NONE, 0, 0), NONE);
        due("solve, empty", x.solve(0, 1, 5, NONE, 1, 0), NONE);
        due("solve, no such", x.solve(0, 1, 8, NONE, 1, 0), NONE);
        due("solve, no such", x.solve(-2, 1, 2, NONE, 1, 0), NONE);
    }

    private static void starts() {
        promise = 25;
        due("starts", new SeriesDesk().starts(NONE, NONE, NONE, NONE, 0), HIDDEN);
        SeriesDesk x = desk("sp7m4", "a=0-2", "b=1", "c=x", "d=0-1", "e=3");
        due("starts of y y = 2", x.starts(0, NONE, 1, NONE, 0), 2);
        due("least of y y = 2", x.starts(0, NONE, 1, NONE, 1), 3);
        due("starts of y y y = 1", x.starts(3, NONE, NONE, 1, 0), 3);
        due("least of y y y = 1", x.starts(3, NONE, NONE, 1, 1), 1);
        due("starts of y y y = 2", x.starts(0, NONE, NONE, 1, 0), 0);
        due("least of y y y = 2", x.starts(0, NONE, NONE, 1, 1), NONE);
        due("starts of y y = x: the slope is 0", x.starts(2, NONE, 1, NONE, 0), 0);
        due("starts of 0", x.starts(NONE, NONE, NONE, NONE, 0), 0);
        due("least of 0", x.starts(NONE, NONE, NONE, NONE, 1), NONE);
        due("starts of y", x.starts(NONE, 1, NONE, NONE, 0), 1);
        due("least of y", x.starts(NONE, 1, NONE, NONE, 1), 0);
        due("what 2", x.starts(NONE, 1, NONE, NONE, 2), HIDDEN);
        due("what -1", x.starts(NONE, 1, NONE, NONE, -1), HIDDEN);
        due("empty", x.starts(5, 1, NONE, NONE, 0), HIDDEN);
        due("no such", x.starts(NONE, 1, NONE, 8, 0), HIDDEN);
        due("no such", x.starts(NONE, 1, NONE, -2, 1), HIDDEN);
    }

    private static void recur() {
        promise = 26;
        SeriesDesk x = desk("sp101m8", "a=1/(1-x-x^2)", "b=0", "c=1/(1-5*x)", "d=x^3", "e=x^4",
            "f=T3(1/(1-x-x^2))", "g=T1(4)", "h=1/(1-2*x-3*x^2-4*x^3-5*x^4)");
        due("recur(0, 0)", x.recur(0, 0), 2);
        due("recur(0, 1)", x.recur(0, 1), 1);
        due("recur(0, 2)", x.recur(0, 2), 1);
        due("recur(0, 3)", x.recur(0, 3), NONE);
        due("recur(0, -1)", x.recur(0, -1), NONE);
        due("recur(1, 0)", x.recur(1, 0), 0);
        due("recur(1, 1)", x.recur(1, 1), NONE);
        due("recur(2, 0)", x.recur(2, 0), 1);
        due("recur(2, 1)", x.recur(2, 1), 5);
        due("recur(3, 0)", x.recur(3, 0), 4);
        due("recur(3, 4)", x.recur(3, 4), 0);
        due("recur(4, 0)", x.recur(4, 0), NONE);
        due("recur(4, 1)", x.recur(4, 1), NONE);
        due("recur(5, 0)", x.recur(5, 0), NONE);
        due("recur(6, 0)", x.recur(6, 0), NONE);
        for (int i = 1; i <= 4; i++) {
            due("recur(7, " + i + ")", x.recur(7, i), i + 1);
        }
        due("recur(8, 0)", x.recur(8, 0), NONE);
        for (int k = 0; k < 24; k++) {
            due("recur of x^" + k, desk("sp2m24", "a=x^" + k).recur(0, 0), k < 12 ? k + 1 : NONE);
        }
        due("recur(0, high)", x.recur(0, HIGH), NONE);
        due("recur(0, 0)", desk("s").recur(0, 0), NONE);
    }

    private static void one() {
        promise = 27;
        SeriesDesk x = desk("sp7m8", "a=1+x", "b=1", "c=6", "d=3+x", "e=x", "f=T1(3)", "g=T7(1+x)", "h=6+x");
        due("one(0)", x.one(0), 49);
        due("one(1)", x.one(1), 1);
        due("one(2)", x.one(2), 2);
        due("one(3): 6 times 49", x.one(3), NONE);
        due("one(4)", x.one(4), NONE);
        due("one(5)", x.one(5), 6);
        due("one(6)", x.one(6), 7);
        due("one(7)", x.one(7), 98);
        due("one(8)", x.one(8), NONE);
        due("one(-1)", x.one(-1), NONE);
        due("one(0)", desk("s").one(0), NONE);
        x = desk("sp997m4", "a=2", "b=1+x", "c=996", "d=0");
        due("one(0)", x.one(0), NONE);
        due("one(1)", x.one(1), NONE);
        due("one(2)", x.one(2), 2);
        due("one(3)", x.one(3), NONE);
        due("one of an order 99", desk("sp199", "a=2").one(0), 99);
        due("one of an order 100", desk("sp101", "a=2").one(0), NONE);
        due("one of 2 by 127", desk("sp127", "a=2").one(0), 7);
        x = desk("sp2m24", "a=1+x", "b=T8(1+x)");
        due("one(0)", x.one(0), 32);
        due("one(1)", x.one(1), 8);
    }

    private static void sums() {
        promise = 28;
        SeriesDesk x = desk("sp7m4", "a=1+2*x+5*x^2", "b=T1(6)");
        due("sums(0, 0)", x.sums(0, 0), 1);
        due("sums(0, 1)", x.sums(0, 1), 3);
        due("sums(0, 2)", x.sums(0, 2), 1);
        due("sums(0, 3)", x.sums(0, 3), 1);
        due("sums(0, 4)", x.sums(0, 4), NONE);
        due("sums(0, -1)", x.sums(0, -1), NONE);
        due("sums(1, 0)", x.sums(1, 0), 6);
        due("sums(1, 1)", x.sums(1, 1), NONE);
        due("sums(2, 0)", x.sums(2, 0), NONE);
        due("sums(8, 0)", x.sums(8, 0), NONE);
    }

    private static void run() {
        promise = 29;
        SeriesDesk x = new SeriesDesk();
        script(x, "b=a;c=D(b);d=D(c)", 0);
        due("run(0, 0)", x.run(0, 0), HIDDEN);
        Texts.tell(x, "s");
        x.text(0);
        due("run(0, 0)", x.run(0, 0), 0);
        due("run(0, 1)", x.run(0, 1), 0);
        due("run(0, 2)", x.run(0, 2), NONE);
        Texts.tell(x, "a=T2(x)");
        x.step();
        due("run(0, 0)", x.run(0, 0), 2);
        due("run(0, 1)", x.run(0, 1), 5);
        due("run(0, 2)", x.run(0, 2), NONE);
        Texts.tell(x, "a=T3(x)");
        x.step();
        due("run(0, 0)", x.run(0, 0), NONE);
        due("run(0, 1)", x.run(0, 1), NONE);
        due("run(0, 2)", x.run(0, 2), 1);
        due("run(0, 3)", x.run(0, 3), HIDDEN);
        due("run(0, -1)", x.run(0, -1), HIDDEN);
        due("run(1, 0)", x.run(1, 0), HIDDEN);
        due("run(-1, 0)", x.run(-1, 0), HIDDEN);
        due("count(0)", x.count(0), 1);
        due("count(3)", x.count(3), 2);
        due("status(5)", x.status(5), 0);
    }

    private static void target() {
        promise = 30;
        SeriesDesk x = new SeriesDesk();
        script(x, "h=1; a = 2;c=3", 0);
        script(x, "b=1;b=1;b=1;b=1;b=1;b=1;b=1;e=1", 1);
        due("target(0, -1)", x.target(0, NONE), 3);
        due("target(0, 0)", x.target(0, 0), 7);
        due("target(0, 1)", x.target(0, 1), 0);
        due("target(0, 2)", x.target(0, 2), 2);
        due("target(0, 3)", x.target(0, 3), NONE);
        due("target(0, -2)", x.target(0, -2), NONE);
        due("target(1, -1)", x.target(1, NONE), 8);
        due("target(1, 7)", x.target(1, 7), 4);
        due("target(1, 8)", x.target(1, 8), NONE);
        due("target(2, -1)", x.target(2, NONE), NONE);
        due("target(-1, 0)", x.target(-1, 0), NONE);
        due("target(high, 0)", x.target(HIGH, 0), NONE);
    }

    private static void most() {
        promise = 31;
        due("most(0)", new SeriesDesk().most(0), HIDDEN);
        SeriesDesk x = desk("s");
        int[] empty = {0, NONE, NONE, 0, 0, 0, 0};
        for (int what = 0; what < 7; what++) {
            due("most(" + what + ")", x.most(what), empty[what]);
        }
        x = desk("s", "b=T5(x+6*x^2)", "d=T7(3+x)", "e=T7(x)", "h=T1(0)");
        int[] want = {0b10011010, 3, 1, 20, 5, 6, 0b10010010};
        for (int what = 0; what < 7; what++) {
            due("most(" + what + ")", x.most(what), want[what]);
        }
        due("most(7)", x.most(7), HIDDEN);
        due("most(-1)", x.most(-1), HIDDEN);
        x = desk("s", "c=1", "f=2");
        due("most(1)", x.most(1), 2);
        due("most(2)", x.most(2), 2);
        x = desk("s", "d=T1(2)", "e=T1(3)");
        due("most(1)", x.most(1), 3);
        due("most(2)", x.most(2), 3);
        x = desk("s", "d=1+6*x");
        x.cut(3, 1);
        due("most(4) of what was cut", x.most(4), 1);
        due("most(5) of what was cut", x.most(5), 1);
        due("most(2) of nothing but 0", desk("s", "c=1", "f=T1(0)").most(2), 5);
    }

    private static void image() {
        promise = 32;
        due("image()", new SeriesDesk().image(), NONE);
        SeriesDesk x = desk("s");
        due("image()", x.image(), 0);
        x = desk("s", "a=1", "b=x");
        due("image()", x.image(), 2);
        due("count(4)", x.count(4), 2);
        x.drop(0);
        due("image()", x.image(), 1);
        x.drop(1);
        due("back()", x.back(), 1);
        due("known(1)", x.known(1), 12);
        due("known(0)", x.known(0), 0);
    }

    private static void back() {
        promise = 33;
        due("back()", new SeriesDesk().back(), NONE);
        SeriesDesk x = desk("s", "a=1+x");
        due("back()", x.back(), NONE);
        due("count(4)", x.count(4), 1);
        x.image();
        x.drop(0);
        x.swap(0, 0);
        due("back()", x.back(), 1);
        row(x, 0, 1, 1, 0, 0, 0, 0, 0, 0, 0, 0, 0, 0);
        due("count(3)", x.count(3), 1);
        due("count(4)", x.count(4), 0);
        due("undo()", x.undo(), NONE);
        due("status(0)", x.status(0), 1);
        x.cut(0, 1);
        due("undo()", x.undo(), 0);
        x.cut(0, 1);
        due("back()", x.back(), 1);
        due("known(0)", x.known(0), 12);
        Texts.tell(x, "s");
        x.text(0);
        due("back()", x.back(), NONE);
    }

    private static void count() {
        promise = 34;
        SeriesDesk x = desk("s", "a=1", "b=1", "a=a+b");
        script(x, "a=1", 0);
        Texts.tell(x, "abc");
        int[] want = {2, 1, 3, 3, 3};
        for (int what = 0; what < 5; what++) {
            due("count(" + what + ")", x.count(what), want[what]);
        }
        due("count(5)", x.count(5), HIDDEN);
        due("count(-1)", x.count(-1), HIDDEN);
        due("count(low)", x.count(LOW), HIDDEN);
    }
}
