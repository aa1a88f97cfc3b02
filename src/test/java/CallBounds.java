import java.util.Arrays;
import java.util.List;

/** The promises themselves, call by call: what each answers, and each thing by which it is refused. */
final class CallBounds {
    private static final int NONE = Ledger.NONE;
    private static final int HIDDEN = Ledger.HIDDEN;
    private static final int LOW = Ledger.LOW;
    private static final int HIGH = Ledger.HIGH;
    private static final int[] NO_REGISTERS = {-2, -1, 8, 9, 255, LOW, HIGH};
    private static final int FOUR_BLANKS = 0x20202020;

    private CallBounds() {
    }

    static void all() {
        newObject();
        feed();
        end();
        fault();
        text();
        rule();
        step();
        would();
        why();
        known();
        coefficient();
        order();
        cut();
        drop();
        swap();
        perform();
        years();
        status();
        undo();
        log();
        alike();
        value();
        newton();
        solve();
        starts();
        recur();
        one();
        sums();
        run();
        target();
        most();
        image();
        back();
        count();
    }

    private static void due(String call, long got, long want) {
        Ledger.due(call, got, want);
    }

    private static void newObject() {
        Ledger.section("Promise 1: A new object");
        Ledger.sentence("No RING.");
        SeriesDesk x = new SeriesDesk();
        due("rule(0)", x.rule(0), NONE);
        due("rule(1)", x.rule(1), NONE);
        due("known(0)", x.known(0), NONE);
        due("most(0)", x.most(0), HIDDEN);
        due("image()", x.image(), NONE);
        due("why()", x.why(), 0);
        Ledger.status(x, 0, 0, 0, 0, 0, 0);
        for (int what = 0; what < 5; what++) {
            due("count(" + what + ")", x.count(what), 0);
        }
        Ledger.desk("sp5");
        due("another object's RING is its own", x.rule(0), NONE);
    }

    private static void feed() {
        Ledger.section("Promise 2: feed");
        Ledger.sentence("Twenty bytes more come to the TAPE (of each number the highest first;");
        SeriesDesk x = new SeriesDesk();
        due("feed of twenty", x.feed(0x613d312b, 0x322b332b, 0x342b352b, 0x362b372b, 0x382b392b), 20);
        due("fault(2)", x.fault(2), 20);
        due("feed of one more", x.feed(0x78000000, 0, 0, 0, 0), 21);
        due("fault(2)", x.fault(2), NONE);
        due("feed of bytes above 127", x.feed(-1, LOW, 0x80808080, 0x7fffffff, -2), 38);
        due("fault(2)", x.fault(2), 21);
        Ledger.sentence("bytes of 0 are left out):");
        SeriesDesk y = new SeriesDesk();
        due("feed of nothing", y.feed(0, 0, 0, 0, 0), 0);
        due("a at the lowest byte", y.feed(0x61, 0, 0, 0, 0), 1);
        due("= at the second byte", y.feed(0, 0x3d0000, 0, 0, 0), 2);
        due("1+2 among zeros", y.feed(0x31, 0, 0x2b00, 0, 0x32000000), 5);
        due("fault(2)", y.fault(2), NONE);
        due("fault(0)", y.fault(0), 0);
        Ledger.sentence("how many it has.");
        for (int i = 1; i <= 16; i++) {
            due("feed of fifteen", y.feed(FOUR_BLANKS, 0x202020, FOUR_BLANKS, 0, FOUR_BLANKS), 5 + 15 * i);
            due("count(2)", y.count(2), 5 + 15 * i);
        }
        due("end(0)", y.end(0) ? 1 : 0, 1);
        due("feed behind it", y.feed(0x61, 0, 0, 0, 0), 1);
        Ledger.sentence("NONE: more than 320.");
        SeriesDesk z = new SeriesDesk();
        for (int i = 1; i <= 16; i++) {
            due("feed of twenty", z.feed(FOUR_BLANKS, FOUR_BLANKS, FOUR_BLANKS, FOUR_BLANKS, FOUR_BLANKS), 20 * i);
        }
        due("feed of one", z.feed(0, 0, 0, 0, 0x20), NONE);
        due("feed of one", z.feed(0x20000000, 0, 0, 0, 0), NONE);
        due("feed of none", z.feed(0, 0, 0, 0, 0), 320);
        due("end(319)", z.end(319) ? 1 : 0, 1);
        due("feed of two", z.feed(0x61, 0, 0, 0, 0x61), NONE);
        due("count(2)", z.count(2), 319);
        due("fault(1)", z.fault(1), 319);
        due("feed of one", z.feed(0, 0, 0x61, 0, 0), 320);
        due("fault(1)", z.fault(1), 320);
        due("end(301)", z.end(301) ? 1 : 0, 1);
        due("feed of twenty", z.feed(-1, -1, -1, -1, -1), NONE);
        due("feed of nineteen", z.feed(-1, -1, -1, -1, 0xffffff), 320);
        for (int number = 0; number < 5; number++) {
            lastByte(number);
        }
    }

    /** Each bit of a number makes a byte of its own: the 320th may come, a 321st not. */
    private static void lastByte(int number) {
        SeriesDesk x = new SeriesDesk();
        for (int i = 1; i <= 16; i++) {
            x.feed(FOUR_BLANKS, FOUR_BLANKS, FOUR_BLANKS, FOUR_BLANKS, FOUR_BLANKS);
        }
        for (int bit = 0; bit < 32; bit++) {
            int[] n = new int[5];
            n[number] = 1 << bit;
            due("feed of a 321st", x.feed(n[0], n[1], n[2], n[3], n[4]), NONE);
            x.end(319);
            due("feed of a 320th", x.feed(n[0], n[1], n[2], n[3], n[4]), 320);
            n[number] |= 1 << (bit + 8) % 32;
            x.end(318);
            due("feed of two", x.feed(n[0], n[1], n[2], n[3], n[4]), 320);
            n[number] |= 1 << (bit + 16) % 32;
            x.end(318);
            due("feed of three", x.feed(n[0], n[1], n[2], n[3], n[4]), NONE);
            x.feed(0, 0, 0, 0, 0x2020);
        }
    }

    private static void end() {
        Ledger.section("Promise 3: end");
        Ledger.sentence("The TAPE has its first n bytes alone.");
        SeriesDesk x = new SeriesDesk();
        Texts.tell(x, "a=1+x+x^2");
        int[] faults = {0, 1, 2, NONE, 4, NONE, 6, NONE, 8, NONE};
        for (int n = 9; n >= 0; n--) {
            due("end(" + n + ")", x.end(n) ? 1 : 0, 1);
            due("count(2)", x.count(2), n);
            due("fault(2)", x.fault(2), faults[n]);
        }
        due("end(0) of nothing", x.end(0) ? 1 : 0, 1);
        Ledger.sentence("False: n.");
        due("end(1) of nothing", x.end(1) ? 1 : 0, 0);
        Texts.tell(x, "a=1");
        for (int n : new int[] {-1, -2, 4, 5, 320, 321, LOW, HIGH}) {
            due("end(" + n + ")", x.end(n) ? 1 : 0, 0);
            due("count(2)", x.count(2), 3);
            due("fault(2)", x.fault(2), NONE);
        }
        due("end(2)", x.end(2) ? 1 : 0, 1);
        due("end(3), what is gone", x.end(3) ? 1 : 0, 0);
    }

    private static void fault() {
        Ledger.section("Promise 4: fault");
        Ledger.sentence("The FAULT of the TAPE as a RING (0), a SCRIPT (1), a STEP (2).");
        String[] told = {"sp5", "a=1;b=2", "a=1", "", "s=", "a=1;"};
        int[][] want = {{NONE, 0, 0}, {0, NONE, 3}, {0, NONE, NONE}, {0, 0, 0}, {1, 0, 0}, {0, 4, 3}};
        for (int i = 0; i < told.length; i++) {
            for (int sort = 0; sort < 3; sort++) {
                Ledger.fault(sort, told[i], want[i][sort]);
            }
        }
        Ledger.sentence("NONE: none.");
        Ledger.good(0, "s", "sp2m2");
        Ledger.good(1, "a=1", "a=1;a=2");
        Ledger.good(2, "a=1", "h=x");
        SeriesDesk x = Ledger.desk("sp5", "a=1");
        Texts.tell(x, "s p 11");
        due("fault(0) with a RING", x.fault(0), NONE);
        due("the RING stays", x.rule(0), 5);
        due("the TAPE stays", x.count(2), 6);
        Ledger.sentence("-2: no such sort.");
        for (int sort : new int[] {-1, -2, 3, 4, LOW, HIGH}) {
            due("fault(" + sort + ")", x.fault(sort), -2);
            due("fault(" + sort + ") of a new object", new SeriesDesk().fault(sort), -2);
        }
    }

    private static void text() {
        Ledger.section("Promise 5: text");
        Ledger.sentence("The TAPE (empty then) is the RING (REGISTERS empty; all that was of another one is gone but "
            + "SCRIPTS, STATUS): PRIME;");
        SeriesDesk x = new SeriesDesk();
        Ledger.script(x, "a=1+x", 0);
        due("drop(0)", x.drop(0), NONE);
        for (String ring : new String[] {"sp11m5", "sp13", "s", "sp997m24", "s"}) {
            Texts.tell(x, ring);
            int prime = ring.equals("s") ? 7 : Integer.parseInt(ring.substring(2).split("m")[0]);
            due("text(0) of " + ring, x.text(0), prime);
            due("count(2)", x.count(2), 0);
            int[] gone = {0, 1, 0, 0, 0};
            for (int what = 0; what < 5; what++) {
                due("count(" + what + ")", x.count(what), gone[what]);
            }
            Ledger.row(x, 0);
            due("undo()", x.undo(), NONE);
            due("back()", x.back(), NONE);
            due("log(0, 0)", x.log(0, 0), HIDDEN);
            Ledger.status(x, 1, 0, 0, 0, 0, 0);
            due("perform(0)", x.perform(0), 1);
            due("known(0)", x.known(0), x.rule(1));
            due("image()", x.image(), 1);
            due("cut(0, 1)", x.cut(0, 1), x.rule(1));
        }
        Ledger.sentence("a SCRIPT: its number.");
        SeriesDesk y = new SeriesDesk();
        for (int number = 0; number < 4; number++) {
            Ledger.script(y, "a=" + number, number);
            due("count(2)", y.count(2), 0);
            due("count(1)", y.count(1), number + 1);
        }
        Ledger.sentence("NONE: a FAULT (the TAPE stays),");
        for (String told : new String[] {"", "x", "s p 4", "a=1000", "a=1;", "sp7m7 p"}) {
            SeriesDesk z = Ledger.desk("sp5m3", "a=1+x");
            z.image();
            Texts.tell(z, told);
            List<Integer> seen = Ledger.portrait(z);
            due("text(0) of " + told, z.text(0), NONE);
            due("text(1) of " + told, z.text(1), NONE);
            due("the TAPE", z.count(2), told.length());
            Ledger.due("all is as it was", Ledger.portrait(z).equals(seen), true);
            due("back()", z.back(), 1);
            Ledger.status(z, 0, 0, 0, 0, 0, 0);
        }
        Ledger.sentence("no such sort,");
        SeriesDesk z = Ledger.desk("sp5m3");
        for (int sort : new int[] {2, 3, -1, -2, LOW, HIGH}) {
            for (String told : new String[] {"s", "a=1"}) {
                Texts.tell(z, told);
                due("text(" + sort + ") of " + told, z.text(sort), NONE);
                due("the TAPE", z.count(2), told.length());
            }
        }
        due("count(1)", z.count(1), 0);
        due("rule(0)", z.rule(0), 5);
        Ledger.sentence("there are four SCRIPTS.");
        Texts.tell(y, "b=1");
        due("text(1)", y.text(1), NONE);
        due("the TAPE", y.count(2), 3);
        due("count(1)", y.count(1), 4);
        due("target(3, 0)", y.target(3, 0), 0);
        due("target(4, 0)", y.target(4, 0), NONE);
        Texts.tell(y, "s");
        due("text(0)", y.text(0), 7);
        due("count(1)", y.count(1), 4);
        Texts.tell(y, "b=1");
        due("text(1)", y.text(1), NONE);
    }

    private static void rule() {
        Ledger.section("Promise 6: rule");
        Ledger.sentence("0 PRIME, 1 MOST.");
        for (int prime : new int[] {2, 3, 991, 997}) {
            for (int most = 2; most <= 24; most += 11) {
                SeriesDesk x = Ledger.desk("sp" + prime + "m" + most);
                due("rule(0)", x.rule(0), prime);
                due("rule(1)", x.rule(1), most);
            }
        }
        Ledger.sentence("NONE: no RING,");
        due("rule(0)", new SeriesDesk().rule(0), NONE);
        due("rule(1)", new SeriesDesk().rule(1), NONE);
        Ledger.sentence("no such what.");
        SeriesDesk x = Ledger.desk("s");
        for (int what : new int[] {-1, 2, 3, LOW, HIGH}) {
            due("rule(" + what + ")", x.rule(what), NONE);
        }
    }

    private static void step() {
        Ledger.section("Promise 7: step");
        Ledger.sentence("The STEP on the TAPE (empty then) is DONE: LENGTH of its REGISTER.");
        SeriesDesk x = Ledger.desk("sp7m6");
        for (int n = 1; n <= 6; n++) {
            Texts.tell(x, " h = T" + n + " ( 3 + x ) ");
            due("step()", x.step(), n);
            due("count(2)", x.count(2), 0);
            due("known(7)", x.known(7), n);
            due("step() of nothing", x.step(), NONE);
        }
        Ledger.sentence("NONE (the TAPE stays): no RING (STATUS 0),");
        SeriesDesk none = new SeriesDesk();
        for (String told : new String[] {"", "a=1", "a=1000", "!"}) {
            Texts.tell(none, told);
            due("step()", none.step(), NONE);
            due("count(2)", none.count(2), told.length());
        }
        Ledger.status(none, 4, 0, 0, 0, 0, 0);
        Ledger.sentence("a FAULT (1; it goes ahead of all other REASONS of a RING),");
        SeriesDesk y = Ledger.desk("sp7m6", "a=1");
        String[] faulty = {"", "a", "b=c+", "b=c+1000", "b=1/0+)", "b=Q2(3)+T25(x)", "b=S(x^6);", "b=D(T1(1)),"};
        for (int i = 0; i < faulty.length; i++) {
            Texts.tell(y, faulty[i]);
            due("why() of " + faulty[i], y.why(), 1);
            due("step() of " + faulty[i], y.step(), NONE);
            due("count(2)", y.count(2), faulty[i].length());
            Ledger.status(y, 0, i + 1, 0, 0, 0, 0);
        }
        Ledger.sentence("the STEP's REASON.");
        SeriesDesk z = Ledger.desk("sp7m9", "a=1");
        String[] steps = {"a=b", null, "a=1/x", "a=S(x^6)", "a=Q2(3)", "a=D(T1(1))"};
        int[] status = new int[6];
        for (int why = 0; why < 6; why++) {
            if (steps[why] != null) {
                Texts.tell(z, steps[why]);
                due("step() of " + steps[why], z.step(), NONE);
                due("count(2)", z.count(2), steps[why].length());
                status[why]++;
                Ledger.status(z, status);
            }
        }
        Ledger.row(z, 0, 1, 0, 0, 0, 0, 0, 0, 0, 0);
        due("count(3)", z.count(3), 1);
        due("count(4)", z.count(4), 1);
    }

    private static void would() {
        Ledger.section("Promise 8: would");
        Ledger.sentence("What the STEP on the TAPE would come to, at a place: its coefficient;");
        SeriesDesk x = Ledger.desk("sp7m4", "a=1");
        Texts.tell(x, "a=3+4*x-x^3");
        int[] want = {3, 4, 0, 6};
        List<Integer> seen = Ledger.portrait(x);
        for (int i = 0; i < 4; i++) {
            due("would(" + i + ")", x.would(i), want[i]);
        }
        Ledger.due("nothing has changed", Ledger.portrait(x).equals(seen), true);
        Ledger.row(x, 0, 1, 0, 0, 0);
        noTrace();
        Ledger.sentence("i NONE: its LENGTH.");
        Texts.tell(x, "a=3+4*x-x^3");
        due("would(-1)", x.would(NONE), 4);
        Texts.tell(x, "a=T1(x)");
        due("would(-1)", x.would(NONE), 1);
        Ledger.sentence("HIDDEN: no RING,");
        SeriesDesk none = new SeriesDesk();
        Texts.tell(none, "a=1");
        due("would(0)", none.would(0), HIDDEN);
        due("would(-1)", none.would(NONE), HIDDEN);
        Ledger.sentence("a FAULT,");
        for (String told : new String[] {"", "a=", "a=1000", "a=1;b=1"}) {
            Texts.tell(x, told);
            due("would(0)", x.would(0), HIDDEN);
            due("would(-1)", x.would(NONE), HIDDEN);
        }
        Ledger.sentence("a REASON,");
        for (String told : new String[] {"a=b", "a=1/0", "a=Q7(1)", "a=Q2(3)", "a=D(T1(1))"}) {
            Texts.tell(x, told);
            due("would(0)", x.would(0), HIDDEN);
            due("would(-1)", x.would(NONE), HIDDEN);
        }
        Ledger.status(x, 0, 0, 0, 0, 0, 0);
        Ledger.sentence("not known there.");
        Texts.tell(x, "a=T3(1)");
        due("would(2)", x.would(2), 0);
        for (int i : new int[] {3, 4, 24, -2, -3, LOW, HIGH}) {
            due("would(" + i + ")", x.would(i), HIDDEN);
        }
    }

    /** What was worked out ahead leaves nothing behind, whatever it was: each call is the first one behind another. */
    private static void noTrace() {
        String[] told = {"1/(2+x+3*x^2)", "(1+x)^9", "D(1/(1-x))", "S(T6(1/(1-x)))", "L(T6(1+5*x))", "E(3*x+x^2)",
            "R(2*x+x^2+5*x^3)", "Q2(4+x+x^2)", "Q5(3+x)", "T2(6+6*x)", "C(1/(1-x),2*x+x^2)", "H(1/(1-x),1/(1-2*x))", "x^3/x",
            "0", "x", "6"};
        for (String second : told) {
            int[] alone = stepped(Ledger.desk("sp7m8"), second);
            for (String first : told) {
                SeriesDesk x = Ledger.desk("sp7m8", "b=0-1", "c=1");
                stepped(x, first);
                Ledger.due(second + " behind " + first, Arrays.equals(stepped(x, second), alone), true);
                x.solve(1, 2, NONE, NONE, 1, 7);
                Ledger.due(second + " behind SOLVE", Arrays.equals(stepped(x, second), alone), true);
                for (int i = 0; i < alone.length; i++) {
                    stepped(x, first);
                    Texts.tell(x, "a=" + second);
                    due("would(" + i + ") of " + second + " behind " + first, x.would(i), alone[i]);
                }
            }
        }
    }

    private static int[] stepped(SeriesDesk x, String expression) {
        Ledger.does(x, "a=" + expression);
        int[] row = new int[Math.max(x.known(0), 0)];
        for (int i = 0; i < row.length; i++) {
            row[i] = Ledger.coefficient(x, 0, i);
        }
        return row;
    }

    private static void why() {
        Ledger.section("Promise 9: why");
        Ledger.sentence("The REASON why the STEP on the TAPE can't be (0 .. 5).");
        due("why() without a RING", new SeriesDesk().why(), 0);
        SeriesDesk x = Ledger.desk("sp7m9");
        String[] told = {"a=b", "a=", "a=1/0", "a=L(1+x)", "a=Q2(3)", "a=T1(0)/x"};
        for (int why = 0; why < 6; why++) {
            Texts.tell(x, told[why]);
            due("why() of " + told[why], x.why(), why);
            due("once more", x.why(), why);
            due("count(2)", x.count(2), told[why].length());
        }
        Ledger.status(x, 0, 0, 0, 0, 0, 0);
        Ledger.sentence("NONE: it can.");
        Texts.tell(x, "a=1");
        due("why()", x.why(), NONE);
        due("count(2)", x.count(2), 3);
        due("known(0)", x.known(0), 0);
        due("count(4)", x.count(4), 0);
    }

    private static void known() {
        Ledger.section("Promise 10: known");
        Ledger.sentence("LENGTH of a REGISTER (0: empty).");
        SeriesDesk x = Ledger.desk("sm24", "a=1", "h=T1(1)");
        due("known(0)", x.known(0), 24);
        due("known(7)", x.known(7), 1);
        for (int register = 1; register < 7; register++) {
            due("known(" + register + ")", x.known(register), 0);
        }
        Ledger.sentence("NONE: no such one,");
        for (int register : NO_REGISTERS) {
            due("known(" + register + ")", x.known(register), NONE);
        }
        Ledger.sentence("no RING.");
        for (int register = -1; register <= 8; register++) {
            due("known(" + register + ")", new SeriesDesk().known(register), NONE);
        }
    }

    private static void coefficient() {
        Ledger.section("Promise 11: coefficient");
        Ledger.sentence("The coefficient at a place.");
        SeriesDesk x = Ledger.desk("sp7m24", "a=1/(1-3*x)", "h=T2(6+5*x)");
        int power = 1;
        for (int i = 0; i < 24; i++) {
            due("coefficient(0, " + i + ")", x.coefficient(0, i), power);
            power = power * 3 % 7;
        }
        due("coefficient(7, 1)", x.coefficient(7, 1), 5);
        Ledger.sentence("NoSuchElementException: no such REGISTER,");
        for (int register : NO_REGISTERS) {
            for (int i : new int[] {-1, 0, 1, 24, 48, LOW, HIGH}) {
                due("coefficient(" + register + ", " + i + ")", Ledger.coefficient(x, register, i), HIDDEN);
            }
        }
        Ledger.sentence("empty,");
        for (int register = 1; register < 7; register++) {
            due("coefficient(" + register + ", 0)", Ledger.coefficient(x, register, 0), HIDDEN);
        }
        x.drop(7);
        due("coefficient of a dropped one", Ledger.coefficient(x, 7, 0), HIDDEN);
        due("coefficient without a RING", Ledger.coefficient(new SeriesDesk(), 0, 0), HIDDEN);
        Ledger.sentence("not known there.");
        x.cut(0, 5);
        due("coefficient(0, 4)", Ledger.coefficient(x, 0, 4), 4);
        for (int i : new int[] {5, 6, 23, 24, 25, -1, -2, LOW, HIGH}) {
            due("coefficient(0, " + i + ")", Ledger.coefficient(x, 0, i), HIDDEN);
        }
    }

    private static void order() {
        Ledger.section("Promise 12: order");
        Ledger.sentence("ORDER of a REGISTER.");
        SeriesDesk x = Ledger.desk("sp7m24", "a=1", "b=x^23", "c=0", "d=T3(x^3)", "e=7*x+x^2", "f=T1(0)");
        int[] want = {0, 23, 24, 3, 2, 1};
        for (int register = 0; register < want.length; register++) {
            due("order(" + register + ")", x.order(register), want[register]);
        }
        x.cut(1, 23);
        due("order of x^23, cut to 23", x.order(1), 23);
        Ledger.sentence("NONE: no such one,");
        for (int register : NO_REGISTERS) {
            due("order(" + register + ")", x.order(register), NONE);
        }
        Ledger.sentence("empty.");
        due("order(6)", x.order(6), NONE);
        due("order(0) without a RING", new SeriesDesk().order(0), NONE);
        x.drop(0);
        due("order of a dropped one", x.order(0), NONE);
    }

    private static void cut() {
        Ledger.section("Promise 13: cut");
        Ledger.sentence("CUT to n: its LENGTH as it was.");
        SeriesDesk x = Ledger.desk("sp7m24", "a=1/(1-x)");
        for (int n = 23; n >= 1; n--) {
            due("cut(0, " + n + ")", x.cut(0, n), n + 1);
            due("known(0)", x.known(0), n);
            due("the last one", Ledger.coefficient(x, 0, n - 1), 1);
            due("behind it", Ledger.coefficient(x, 0, n), HIDDEN);
        }
        SeriesDesk y = Ledger.desk("sp7m4", "b=3+4*x+5*x^2", "c=T1(2)");
        Ledger.sentence("NONE: no such REGISTER,");
        int refused = 0;
        for (int register : NO_REGISTERS) {
            for (int n : new int[] {-1, 0, 1, 2, 25}) {
                due("cut(" + register + ", " + n + ")", y.cut(register, n), NONE);
                refused++;
            }
        }
        Ledger.status(y, refused, 0, 0, 0, 0, 0);
        Ledger.sentence("empty (STATUS 0),");
        for (int n : new int[] {-1, 0, 1, 2, 25, LOW, HIGH}) {
            due("cut(0, " + n + ")", y.cut(0, n), NONE);
            refused++;
        }
        Ledger.status(y, refused, 0, 0, 0, 0, 0);
        Ledger.sentence("n below 1 (1),");
        int below = 0;
        for (int n : new int[] {0, -1, -2, LOW}) {
            due("cut(1, " + n + ")", y.cut(1, n), NONE);
            due("cut(2, " + n + ")", y.cut(2, n), NONE);
            below += 2;
        }
        Ledger.status(y, refused, below, 0, 0, 0, 0);
        Ledger.sentence("it is no longer (2).");
        int longer = 0;
        for (int n : new int[] {4, 5, 24, 25, HIGH}) {
            due("cut(1, " + n + ")", y.cut(1, n), NONE);
            due("cut(2, " + n + ")", y.cut(2, n), NONE);
            longer += 2;
        }
        due("cut(2, 1)", y.cut(2, 1), NONE);
        Ledger.status(y, refused, below, longer + 1, 0, 0, 0);
        Ledger.row(y, 1, 3, 4, 5, 0);
        due("count(3)", y.count(3), 2);
        due("count(4)", y.count(4), 2);
        due("cut(1, 3)", y.cut(1, 3), 4);
    }

    private static void drop() {
        Ledger.section("Promise 14: drop");
        Ledger.sentence("DROPPED: its LENGTH as it was.");
        SeriesDesk x = Ledger.desk("sp7m6");
        for (int n = 1; n <= 6; n++) {
            Ledger.does(x, "h=T" + n + "(x)");
            due("drop(7)", x.drop(7), n);
            due("known(7)", x.known(7), 0);
            due("count(0)", x.count(0), 0);
        }
        Ledger.sentence("NONE: no such REGISTER,");
        int refused = 0;
        for (int register : NO_REGISTERS) {
            due("drop(" + register + ")", x.drop(register), NONE);
            refused++;
        }
        Ledger.status(x, refused, 0, 0, 0, 0, 0);
        Ledger.sentence("empty (STATUS 0).");
        for (int register = 0; register < 8; register++) {
            due("drop(" + register + ")", x.drop(register), NONE);
            refused++;
        }
        Ledger.status(x, refused, 0, 0, 0, 0, 0);
        due("count(3)", x.count(3), 12);
        due("count(4)", x.count(4), 12);
    }

    private static void swap() {
        Ledger.section("Promise 15: swap");
        Ledger.sentence("Two CHANGE places (one may be empty): LENGTH of the first one then.");
        SeriesDesk x = Ledger.desk("sp7m6", "a=T2(1+2*x)", "h=T3(4)");
        due("swap(0, 7)", x.swap(0, 7), 3);
        Ledger.row(x, 0, 4, 0, 0);
        Ledger.row(x, 7, 1, 2);
        due("swap(7, 0)", x.swap(7, 0), 3);
        Ledger.row(x, 0, 1, 2);
        due("swap(0, 3), the other one is empty", x.swap(0, 3), 0);
        Ledger.row(x, 0);
        Ledger.row(x, 3, 1, 2);
        due("swap(5, 3), the first one is empty", x.swap(5, 3), 2);
        Ledger.row(x, 3);
        Ledger.row(x, 5, 1, 2);
        Ledger.sentence("NONE: no such REGISTERS,");
        int refused = 0;
        for (int register : NO_REGISTERS) {
            due("swap(" + register + ", 5)", x.swap(register, 5), NONE);
            due("swap(5, " + register + ")", x.swap(5, register), NONE);
            due("swap(0, " + register + ")", x.swap(0, register), NONE);
            due("swap of " + register + " with itself", x.swap(register, register), NONE);
            refused += 4;
        }
        Ledger.status(x, refused, 0, 0, 0, 0, 0);
        Ledger.sentence("both empty (STATUS 0),");
        due("swap(0, 1)", x.swap(0, 1), NONE);
        due("swap(1, 0)", x.swap(1, 0), NONE);
        due("swap(0, 0), an empty one", x.swap(0, 0), NONE);
        Ledger.status(x, refused + 3, 0, 0, 0, 0, 0);
        due("swap(0, 1) without a RING", new SeriesDesk().swap(0, 1), NONE);
        Ledger.sentence("both are one (2).");
        due("swap(5, 5)", x.swap(5, 5), NONE);
        due("swap(7, 7)", x.swap(7, 7), NONE);
        Ledger.status(x, refused + 3, 0, 2, 0, 0, 0);
        due("count(3)", x.count(3), 6);
        due("count(4)", x.count(4), 6);
    }

    private static void perform() {
        Ledger.section("Promise 16: perform");
        Ledger.sentence("All STEPS of a SCRIPT are DONE as one ACT: how many.");
        SeriesDesk x = Ledger.desk("sp7m4");
        Ledger.script(x, "a=1", 0);
        Ledger.script(x, "a=1;b=a+x;c=b*b;d=c/b;e=D(d);f=S(e);g=T1(f);h=g", 1);
        Ledger.script(x, "a=a+1;a=a*a", 2);
        due("perform(0)", x.perform(0), 1);
        due("perform(1)", x.perform(1), 8);
        due("count(0)", x.count(0), 8);
        due("perform(2)", x.perform(2), 2);
        Ledger.row(x, 0, 4, 0, 0, 0);
        due("perform(2), once more", x.perform(2), 2);
        Ledger.row(x, 0, 4, 0, 0, 0);
        due("count(3)", x.count(3), 13);
        due("count(4)", x.count(4), 4);
        due("undo()", x.undo(), 3);
        due("undo()", x.undo(), 2);
        Ledger.row(x, 0, 1, 0, 0, 0);
        Ledger.sentence("NONE: no such SCRIPT,");
        int refused = 0;
        for (int script : new int[] {3, 4, -1, -2, LOW, HIGH}) {
            due("perform(" + script + ")", x.perform(script), NONE);
            refused++;
        }
        Ledger.status(x, refused, 0, 0, 0, 0, 0);
        Ledger.sentence("no RING (STATUS 0),");
        SeriesDesk none = new SeriesDesk();
        Ledger.script(none, "a=1", 0);
        due("perform(0)", none.perform(0), NONE);
        due("perform(1)", none.perform(1), NONE);
        Ledger.status(none, 2, 0, 0, 0, 0, 0);
        Ledger.sentence("one can't be (its REASON; none is DONE then).");
        String[] wrong = {"g=e", "g=1/0", "g=S(x^6)", "g=Q2(3)", "g=D(T1(1))"};
        int[] reasons = {0, 2, 3, 4, 5};
        for (int why = 0; why < wrong.length; why++) {
            for (String form : new String[] {"W", "a=5;b=a+x;W", "W;a=5", "a=5;W;W;a=6"}) {
                SeriesDesk y = Ledger.desk("sp7m9", "a=1+x", "h=T2(3)");
                Ledger.script(y, form.replace("W", wrong[why]), 0);
                List<Integer> seen = Ledger.portrait(y);
                due("perform(0)", y.perform(0), NONE);
                int[] status = new int[6];
                status[reasons[why]]++;
                Ledger.status(y, status);
                Ledger.due("none is done", Ledger.portrait(y).equals(seen), true);
            }
        }
    }

    private static void years() {
        Ledger.section("Promise 17: years");
        Ledger.sentence("YEARS: how many REGISTERS are not empty.");
        SeriesDesk x = Ledger.desk("sp7m4");
        for (int i = 0; i < 20; i++) {
            due("years(2, " + i + ")", x.years(2, i), x.count(0));
            due("bits", Integer.bitCount(x.most(0)), x.count(0));
        }
        due("some are there", x.count(0) > 2 ? 1 : 0, 1);
        Ledger.sentence("NONE: no RING,");
        SeriesDesk none = new SeriesDesk();
        due("years(1, 1)", none.years(1, 1), NONE);
        due("years(40, 1)", none.years(40, 1), NONE);
        Ledger.status(none, 0, 0, 0, 0, 0, 0);
        Ledger.sentence("out of bounds.");
        List<Integer> seen = Ledger.portrait(x);
        for (int n : new int[] {0, -1, 41, 42, LOW, HIGH}) {
            due("years(" + n + ", 1)", x.years(n, 1), NONE);
        }
        Ledger.due("all is as it was", Ledger.portrait(x).equals(seen), true);
        Ledger.status(x, 0, 0, 0, 0, 0, 0);
        due("years(1, 3) of bounds", x.years(1, 3) > 0 ? 1 : 0, 1);
        due("years(40, 3) of bounds", x.years(40, 3) > 0 ? 1 : 0, 1);
    }

    private static void status() {
        Ledger.section("Promise 18: status");
        Ledger.sentence("STATUS.");
        SeriesDesk x = new SeriesDesk();
        for (int i = 1; i <= 250; i++) {
            due("drop(0)", x.drop(0), NONE);
            due("status(0)", x.status(0), i);
        }
        Ledger.status(x, 250, 0, 0, 0, 0, 0);
        Ledger.sentence("NONE: no such what.");
        for (int what : new int[] {-1, 6, 7, LOW, HIGH}) {
            due("status(" + what + ")", new SeriesDesk().status(what), NONE);
        }
    }

    private static void undo() {
        Ledger.section("Promise 19: undo");
        Ledger.sentence("The latest ACT is UNDONE: how many still can be.");
        SeriesDesk x = Ledger.desk("sp7m4", "a=1", "a=2", "a=3");
        due("undo()", x.undo(), 2);
        Ledger.row(x, 0, 2, 0, 0, 0);
        due("undo()", x.undo(), 1);
        Ledger.row(x, 0, 1, 0, 0, 0);
        Ledger.does(x, "a=5");
        due("count(4)", x.count(4), 2);
        due("undo()", x.undo(), 1);
        Ledger.row(x, 0, 1, 0, 0, 0);
        due("undo()", x.undo(), 0);
        Ledger.row(x, 0);
        Ledger.sentence("NONE: none.");
        due("undo()", x.undo(), NONE);
        due("undo()", x.undo(), NONE);
        due("undo() of a new object", new SeriesDesk().undo(), NONE);
        Ledger.status(x, 0, 0, 0, 0, 0, 0);
        // Refused acts can't be undone, and hold nothing up.
        Ledger.does(x, "a=1");
        x.drop(3);
        x.cut(0, 9);
        due("count(4)", x.count(4), 1);
        due("undo()", x.undo(), 0);
        Ledger.status(x, 1, 0, 1, 0, 0, 0);
    }

    private static void log() {
        Ledger.section("Promise 20: log");
        Ledger.sentence("The LOG, the latest (i 0), the one ahead of it (1) ..: 0 sort, 1 REGISTER, 2 LENGTH.");
        SeriesDesk x = Ledger.desk("sp7m4", "b=x", "h=T2(x)");
        x.cut(1, 3);
        x.swap(7, 0);
        x.drop(0);
        int[][] want = {{2, 0, 0}, {3, 7, 0}, {1, 1, 3}, {0, 7, 2}, {0, 1, 4}};
        for (int i = 0; i < want.length; i++) {
            Ledger.logged(x, i, want[i][0], want[i][1], want[i][2]);
        }
        Ledger.sentence("HIDDEN: no such ones.");
        for (int i : new int[] {5, 6, 59, 60, -1, LOW, HIGH}) {
            Ledger.logged(x, i, HIDDEN, HIDDEN, HIDDEN);
        }
        for (int what : new int[] {3, 4, -1, LOW, HIGH}) {
            due("log(0, " + what + ")", x.log(0, what), HIDDEN);
        }
        due("log(0, 0) of a new object", new SeriesDesk().log(0, 0), HIDDEN);
    }

    private static void alike() {
        Ledger.section("Promise 21: alike");
        Ledger.sentence("ALIKE.");
        SeriesDesk x = Ledger.desk("sp7m4", "a=1+x", "h=T3(1+x+x^2)");
        due("alike(0, 7)", x.alike(0, 7), 2);
        due("alike(7, 0)", x.alike(7, 0), 2);
        due("alike(7, 7)", x.alike(7, 7), 3);
        Ledger.sentence("NONE: no such ones,");
        for (int register : NO_REGISTERS) {
            due("alike(0, " + register + ")", x.alike(0, register), NONE);
            due("alike(" + register + ", 0)", x.alike(register, 0), NONE);
            due("alike of no register", x.alike(register, register), NONE);
        }
        Ledger.sentence("empty ones.");
        due("alike(0, 1)", x.alike(0, 1), NONE);
        due("alike(1, 0)", x.alike(1, 0), NONE);
        due("alike(1, 1)", x.alike(1, 1), NONE);
        due("alike(0, 0) without a RING", new SeriesDesk().alike(0, 0), NONE);
    }

    private static void value() {
        Ledger.section("Promise 22: value");
        Ledger.sentence("VALUE (n 0 .. 996).");
        SeriesDesk x = Ledger.desk("sp997m4", "a=x", "h=T1(5)");
        for (int n = 0; n <= 996; n += 83) {
            due("value(0, " + n + ")", x.value(0, n), n);
        }
        due("value(7, 996)", x.value(7, 996), 5);
        Ledger.sentence("NONE: no such one,");
        for (int register : NO_REGISTERS) {
            due("value(" + register + ", 0)", x.value(register, 0), NONE);
        }
        Ledger.sentence("empty,");
        due("value(1, 0)", x.value(1, 0), NONE);
        due("value(0, 0) without a RING", new SeriesDesk().value(0, 0), NONE);
        Ledger.sentence("out of bounds.");
        for (int n : new int[] {-1, 997, 998, LOW, HIGH}) {
            due("value(0, " + n + ")", x.value(0, n), NONE);
        }
        SeriesDesk y = Ledger.desk("sp2m4", "a=x");
        due("value above PRIME", y.value(0, 995), 1);
        due("value above PRIME", y.value(0, 996), 0);
        due("value(0, 997)", y.value(0, 997), NONE);
    }

    private static void newton() {
        Ledger.section("Promise 23: newton");
        Ledger.sentence("NEWTON: the coefficient at a place (i NONE: how many places).");
        SeriesDesk x = Ledger.desk("sp7m12", "a=1/(3+x)", "b=x", "h=T3(1-x)");
        due("newton(0, 4, -1)", x.newton(0, 4, NONE), 12);
        int[] want = {3, 1, 0, 0};
        for (int i = 0; i < 4; i++) {
            due("newton(0, 2, " + i + ")", x.newton(0, 2, i), want[i]);
            due("newton(0, 4, " + i + ")", x.newton(0, 4, i), want[i]);
        }
        due("newton(7, 1, -1)", x.newton(7, 1, NONE), 2);
        due("newton(7, 2, -1)", x.newton(7, 2, NONE), 3);
        due("newton(7, 2, 2)", x.newton(7, 2, 2), 1);
        Ledger.sentence("NONE: no such ones,");
        for (int register : NO_REGISTERS) {
            due("newton(" + register + ", 0, 0)", x.newton(register, 0, 0), NONE);
            due("newton(" + register + ", 0, -1)", x.newton(register, 0, NONE), NONE);
        }
        for (int k : new int[] {-1, 5, LOW, HIGH}) {
            due("newton(0, " + k + ", 0)", x.newton(0, k, 0), NONE);
            due("newton(0, " + k + ", -1)", x.newton(0, k, NONE), NONE);
        }
        Ledger.sentence("empty,");
        due("newton(2, 0, 0)", x.newton(2, 0, 0), NONE);
        due("newton(2, 0, -1)", x.newton(2, 0, NONE), NONE);
        due("newton(0, 0, -1) without a RING", new SeriesDesk().newton(0, 0, NONE), NONE);
        Ledger.sentence("its first coefficient is 0,");
        due("newton(1, 0, 0)", x.newton(1, 0, 0), NONE);
        due("newton(1, 3, -1)", x.newton(1, 3, NONE), NONE);
        Ledger.sentence("no such place.");
        int[] places = {1, 2, 4, 8, 12};
        for (int k = 0; k <= 4; k++) {
            due("the last place", x.newton(0, k, places[k] - 1) >= 0 ? 1 : 0, 1);
            for (int i : new int[] {places[k], 24, -2, LOW, HIGH}) {
                due("newton(0, " + k + ", " + i + ")", x.newton(0, k, i), NONE);
            }
        }
    }

    private static void solve() {
        Ledger.section("Promise 24: solve");
        Ledger.sentence("SOLVE: the coefficient at a place (i NONE: LENGTH).");
        SeriesDesk x = Ledger.desk("sp7m4", "a=0-1-x", "b=1", "h=T3(1)");
        due("solve(0, 1, ...) at 0", x.solve(0, 1, NONE, NONE, 1, 0), 1);
        due("solve(0, 1, ...) at 1", x.solve(0, 1, NONE, NONE, 1, 1), 1);
        due("solve(0, 1, ...) at 3", x.solve(0, 1, NONE, NONE, 1, 3), 0);
        due("solve(0, 1, ...) LENGTH", x.solve(0, 1, NONE, NONE, 1, NONE), 4);
        due("solve(0, 7, ...) LENGTH", x.solve(0, 7, NONE, NONE, 1, NONE), 3);
        Ledger.sentence("NONE: no RING,");
        for (int start = -1; start <= 1; start++) {
            due("solve without a RING", new SeriesDesk().solve(NONE, NONE, NONE, NONE, start, NONE), NONE);
            due("solve without a RING", new SeriesDesk().solve(0, 1, 2, 3, start, 0), NONE);
        }
        Ledger.sentence("no such REGISTERS (NONE may be),");
        for (int register : NO_REGISTERS) {
            boolean may = register == NONE;
            due("solve, r0 " + register, x.solve(register, 1, NONE, NONE, may ? 0 : 1, NONE), may ? 4 : NONE);
            due("solve, r1 " + register, x.solve(0, register, NONE, 1, 1, NONE), may ? 4 : NONE);
            due("solve, r2 " + register, x.solve(0, 1, register, NONE, 1, NONE), may ? 4 : NONE);
            due("solve, r3 " + register, x.solve(0, 1, NONE, register, 1, NONE), may ? 4 : NONE);
        }
        Ledger.sentence("empty ones,");
        due("solve, r0 empty", x.solve(2, 1, NONE, NONE, 0, NONE), NONE);
        due("solve, r1 empty", x.solve(0, 2, NONE, 1, 1, NONE), NONE);
        due("solve, r2 empty", x.solve(0, 1, 2, NONE, 1, NONE), NONE);
        due("solve, r3 empty", x.solve(0, 1, NONE, 2, 1, NONE), NONE);
        Ledger.sentence("a start that is not 0 .. PRIME less 1 or can't be,");
        SeriesDesk y = Ledger.desk("sp7m4", "a=0", "b=1", "c=1");
        for (int start = -8; start <= 15; start++) {
            due("solve y = 0 from " + start, y.solve(0, 1, NONE, NONE, start, NONE), start == 0 ? 4 : NONE);
            due("solve y + 1 = 0 from " + start, y.solve(2, 1, NONE, NONE, start, 0), start == 6 ? 6 : NONE);
        }
        due("solve from the lowest", y.solve(0, 1, NONE, NONE, LOW, NONE), NONE);
        due("solve from the highest", y.solve(0, 1, NONE, NONE, HIGH, NONE), NONE);
        Ledger.sentence("no such place.");
        due("the last place", y.solve(2, 1, NONE, NONE, 6, 3), 0);
        for (int i : new int[] {4, 5, 24, -2, LOW, HIGH}) {
            due("solve at " + i, y.solve(2, 1, NONE, NONE, 6, i), NONE);
        }
    }

    private static void starts() {
        Ledger.section("Promise 25: starts");
        Ledger.sentence("STARTS: how many (0), the least (1; NONE: none).");
        SeriesDesk x = Ledger.desk("sp7m4", "a=0-4", "b=1", "c=0-3");
        due("y y = 4, how many", x.starts(0, NONE, 1, NONE, 0), 2);
        due("y y = 4, the least", x.starts(0, NONE, 1, NONE, 1), 2);
        due("y y = 3, how many", x.starts(2, NONE, 1, NONE, 0), 0);
        due("y y = 3, the least", x.starts(2, NONE, 1, NONE, 1), NONE);
        due("nothing, how many", x.starts(NONE, NONE, NONE, NONE, 0), 0);
        due("nothing, the least", x.starts(NONE, NONE, NONE, NONE, 1), NONE);
        Ledger.sentence("HIDDEN: no RING,");
        due("starts without a RING", new SeriesDesk().starts(NONE, NONE, NONE, NONE, 0), HIDDEN);
        due("starts without a RING", new SeriesDesk().starts(0, 0, 0, 0, 1), HIDDEN);
        Ledger.sentence("no such REGISTERS,");
        for (int register : NO_REGISTERS) {
            int want = register == NONE ? 1 : HIDDEN;
            due("starts, r0 " + register, x.starts(register, 1, NONE, NONE, 0), want);
            due("starts, r2 " + register, x.starts(NONE, 1, register, NONE, 0), want);
            due("starts, r3 " + register, x.starts(NONE, 1, NONE, register, 0), want);
            due("starts, r1 " + register, x.starts(0, register, 1, NONE, 0), register == NONE ? 2 : HIDDEN);
        }
        Ledger.sentence("empty ones,");
        due("starts, r0 empty", x.starts(3, 1, NONE, NONE, 0), HIDDEN);
        due("starts, r1 empty", x.starts(0, 3, 1, NONE, 1), HIDDEN);
        due("starts, r2 empty", x.starts(0, 1, 3, NONE, 0), HIDDEN);
        due("starts, r3 empty", x.starts(0, 1, NONE, 3, 1), HIDDEN);
        Ledger.sentence("no such what.");
        for (int what : new int[] {-1, 2, 3, LOW, HIGH}) {
            due("starts, what " + what, x.starts(0, NONE, 1, NONE, what), HIDDEN);
        }
    }

    private static void recur() {
        Ledger.section("Promise 26: recur");
        Ledger.sentence("RECUR: L (i 0), c i (1 .. L).");
        SeriesDesk x = Ledger.desk("sp101m8", "a=1/(1-2*x-3*x^2-4*x^3-5*x^4)", "b=0", "c=x^4", "h=T3(1/(1-x-x^2))");
        int[] want = {4, 2, 3, 4, 5};
        for (int i = 0; i <= 4; i++) {
            due("recur(0, " + i + ")", x.recur(0, i), want[i]);
        }
        due("recur(1, 0)", x.recur(1, 0), 0);
        for (int i : new int[] {5, 6, 8, 25, -1, -2, LOW, HIGH}) {
            due("recur(0, " + i + ")", x.recur(0, i), NONE);
        }
        due("recur(1, 1)", x.recur(1, 1), NONE);
        Ledger.sentence("NONE: none is told,");
        due("recur(2, 0)", x.recur(2, 0), NONE);
        due("recur(2, 1)", x.recur(2, 1), NONE);
        due("recur(7, 0)", x.recur(7, 0), NONE);
        due("recur(7, 1)", x.recur(7, 1), NONE);
        Ledger.sentence("no such one,");
        for (int register : NO_REGISTERS) {
            due("recur(" + register + ", 0)", x.recur(register, 0), NONE);
        }
        Ledger.sentence("empty.");
        due("recur(3, 0)", x.recur(3, 0), NONE);
        due("recur(0, 0) without a RING", new SeriesDesk().recur(0, 0), NONE);
    }

    private static void one() {
        Ledger.section("Promise 27: one");
        Ledger.sentence("ONE.");
        SeriesDesk x = Ledger.desk("sp7m4", "a=1", "b=6", "c=3", "d=1+x", "e=3+x", "f=x");
        int[] want = {1, 2, 6, 7, 42};
        for (int register = 0; register < want.length; register++) {
            due("one(" + register + ")", x.one(register), want[register]);
        }
        Ledger.sentence("NONE: none,");
        due("one(5)", x.one(5), NONE);
        due("one of 1 + x by 101", Ledger.desk("sp101", "a=1+x").one(0), NONE);
        Ledger.sentence("no such one,");
        for (int register : NO_REGISTERS) {
            due("one(" + register + ")", x.one(register), NONE);
        }
        Ledger.sentence("empty.");
        due("one(6)", x.one(6), NONE);
        due("one(0) without a RING", new SeriesDesk().one(0), NONE);
    }

    private static void sums() {
        Ledger.section("Promise 28: sums");
        Ledger.sentence("SUMS.");
        SeriesDesk x = Ledger.desk("sp7m24", "a=1/(1-x)", "h=T2(6+2*x)");
        for (int i = 0; i < 24; i++) {
            due("sums(0, " + i + ")", x.sums(0, i), (i + 1) % 7);
        }
        due("sums(7, 0)", x.sums(7, 0), 6);
        due("sums(7, 1)", x.sums(7, 1), 1);
        Ledger.sentence("NONE: no such one,");
        for (int register : NO_REGISTERS) {
            due("sums(" + register + ", 0)", x.sums(register, 0), NONE);
        }
        Ledger.sentence("empty,");
        due("sums(1, 0)", x.sums(1, 0), NONE);
        due("sums(0, 0) without a RING", new SeriesDesk().sums(0, 0), NONE);
        Ledger.sentence("not known there.");
        for (int i : new int[] {2, 3, 24, -1, LOW, HIGH}) {
            due("sums(7, " + i + ")", x.sums(7, i), NONE);
        }
        due("sums(0, 24)", x.sums(0, 24), NONE);
    }

    private static void run() {
        Ledger.section("Promise 29: run");
        SeriesDesk x = Ledger.desk("sp7m9", "a=T2(x)");
        Ledger.script(x, "b=a;c=D(b)", 0);
        Ledger.script(x, "b=a;c=D(b);d=D(c)", 1);
        Ledger.sentence("RUN: the STEP that can't be (0; NONE: all can be),");
        due("run(0, 0)", x.run(0, 0), NONE);
        due("run(1, 0)", x.run(1, 0), 2);
        Ledger.sentence("the REASON (1; NONE: none),");
        due("run(0, 1)", x.run(0, 1), NONE);
        due("run(1, 1)", x.run(1, 1), 5);
        Ledger.sentence("LENGTH (2; NONE: one can't be).");
        due("run(0, 2)", x.run(0, 2), 1);
        due("run(1, 2)", x.run(1, 2), NONE);
        due("count(0)", x.count(0), 1);
        Ledger.status(x, 0, 0, 0, 0, 0, 0);
        Ledger.sentence("HIDDEN: no such SCRIPT,");
        for (int script : new int[] {2, 3, 4, -1, LOW, HIGH}) {
            due("run(" + script + ", 0)", x.run(script, 0), HIDDEN);
            due("run(" + script + ", 2)", x.run(script, 2), HIDDEN);
        }
        Ledger.sentence("no RING,");
        SeriesDesk none = new SeriesDesk();
        Ledger.script(none, "a=1", 0);
        for (int what = 0; what < 3; what++) {
            due("run(0, " + what + ") without a RING", none.run(0, what), HIDDEN);
        }
        Ledger.sentence("no such what.");
        for (int what : new int[] {-1, 3, 4, LOW, HIGH}) {
            due("run(0, " + what + ")", x.run(0, what), HIDDEN);
            due("run(1, " + what + ")", x.run(1, what), HIDDEN);
        }
    }

    private static void target() {
        Ledger.section("Promise 30: target");
        Ledger.sentence("Of a SCRIPT: how many STEPS (i NONE), the REGISTER of its i-th STEP.");
        SeriesDesk x = new SeriesDesk();
        Ledger.script(x, "h=1", 0);
        Ledger.script(x, "a=1;b=1;c=1;d=1;e=1;f=1;g=1;h=1", 1);
        due("target(0, -1)", x.target(0, NONE), 1);
        due("target(0, 0)", x.target(0, 0), 7);
        due("target(1, -1)", x.target(1, NONE), 8);
        for (int i = 0; i < 8; i++) {
            due("target(1, " + i + ")", x.target(1, i), i);
        }
        Texts.tell(x, "s");
        due("text(0)", x.text(0), 7);
        due("target(1, 7) behind a RING", x.target(1, 7), 7);
        Ledger.sentence("NONE: no such ones.");
        for (int i : new int[] {8, 9, -2, LOW, HIGH}) {
            due("target(1, " + i + ")", x.target(1, i), NONE);
        }
        due("target(0, 1)", x.target(0, 1), NONE);
        for (int script : new int[] {2, 3, 4, -1, LOW, HIGH}) {
            due("target(" + script + ", -1)", x.target(script, NONE), NONE);
            due("target(" + script + ", 0)", x.target(script, 0), NONE);
        }
    }

    private static void most() {
        Ledger.section("Promise 31: most");
        SeriesDesk empty = Ledger.desk("s");
        SeriesDesk x = Ledger.desk("sp7m9", "b=T5(x^2+6*x^3)", "d=T7(3+x)", "e=T7(x)", "g=T2(0)");
        SeriesDesk full = Ledger.desk("sp7m9");
        for (int register = 0; register < 8; register++) {
            Ledger.does(full, (char) ('a' + register) + "=x");
        }
        Ledger.sentence("REGISTERS that are not empty (0, bits),");
        due("most(0)", x.most(0), 2 + 8 + 16 + 64);
        due("most(0), empty", empty.most(0), 0);
        due("most(0), full", full.most(0), 255);
        Ledger.sentence("the longest (1; NONE: all are empty),");
        due("most(1)", x.most(1), 3);
        due("most(1), empty", empty.most(1), NONE);
        due("most(1) of one alone", Ledger.desk("s", "h=T1(0)").most(1), 7);
        Ledger.sentence("the one of the greatest ORDER (2; likewise)");
        due("most(2), empty", empty.most(2), NONE);
        due("most(2) of one alone", Ledger.desk("s", "h=T1(1)").most(2), 7);
        due("most(2), 0 alone has its LENGTH", Ledger.desk("s", "a=x^2", "b=T3(0)").most(2), 1);
        due("most(2), 0 alone has its LENGTH", Ledger.desk("s", "a=x^3", "b=T2(0)").most(2), 0);
        Ledger.sentence("(of several the lowest, both),");
        due("most(1)", Ledger.desk("s", "h=1", "c=x", "f=0").most(1), 2);
        due("most(2)", x.most(2), 1);
        due("most(1), full", full.most(1), 0);
        due("most(2), full", full.most(2), 0);
        Ledger.sentence("coefficients known in all (3),");
        due("most(3)", x.most(3), 21);
        due("most(3), empty", empty.most(3), 0);
        due("most(3), full", full.most(3), 72);
        Ledger.sentence("those of them other than 0 (4),");
        due("most(4)", x.most(4), 5);
        due("most(4), empty", empty.most(4), 0);
        due("most(4), full", full.most(4), 8);
        Ledger.sentence("the greatest of all (5; 0 without),");
        due("most(5)", x.most(5), 6);
        due("most(5), empty", empty.most(5), 0);
        due("most(5), 0 alone", Ledger.desk("s", "c=0").most(5), 0);
        due("most(5), full", full.most(5), 1);
        for (int register = 0; register < 8; register++) {
            for (int place = 0; place < 4; place += 3) {
                SeriesDesk y = Ledger.desk("sp7m4", "d=3", "e=x", (char) ('a' + register) + "=5*x^" + place);
                due("most(5), wherever it is", y.most(5), 5);
            }
        }
        Ledger.sentence("REGISTERS with a first coefficient 0 (6, bits).");
        due("most(6)", x.most(6), 2 + 16 + 64);
        due("most(6), empty", empty.most(6), 0);
        due("most(6), full", full.most(6), 255);
        due("most(6), known to 1", Ledger.desk("s", "a=T1(0)", "c=T1(1)", "h=T1(x)").most(6), 129);
        Ledger.sentence("HIDDEN: no RING,");
        for (int what = -1; what <= 7; what++) {
            due("most(" + what + ")", new SeriesDesk().most(what), HIDDEN);
        }
        Ledger.sentence("no such what.");
        for (int what : new int[] {-1, 7, 8, LOW, HIGH}) {
            due("most(" + what + ")", x.most(what), HIDDEN);
        }
        // What was cut or dropped counts no more.
        x.cut(1, 3);
        x.drop(3);
        due("most(3), cut", x.most(3), 12);
        due("most(4), cut", x.most(4), 2);
        due("most(5), cut", x.most(5), 1);
    }

    private static void image() {
        Ledger.section("Promise 32: image");
        Ledger.sentence("An IMAGE (instead of the one ahead): how many REGISTERS are not empty.");
        SeriesDesk x = Ledger.desk("sp7m4");
        due("image() of nothing", x.image(), 0);
        for (int register = 0; register < 8; register++) {
            Ledger.does(x, (char) ('a' + register) + "=" + register);
            due("image()", x.image(), register + 1);
        }
        x.drop(0);
        due("image()", x.image(), 7);
        x.drop(1);
        due("back()", x.back(), 7);
        due("known(0)", x.known(0), 0);
        due("known(1)", x.known(1), 4);
        SeriesDesk y = Ledger.desk("sp7m4", "a=1");
        due("image()", y.image(), 1);
        due("an image is no act", y.count(4), 1);
        due("an image is no act", y.count(3), 1);
        due("undo()", y.undo(), 0);
        due("back() behind undo()", y.back(), 1);
        Ledger.sentence("NONE: no RING.");
        SeriesDesk none = new SeriesDesk();
        due("image()", none.image(), NONE);
        due("back()", none.back(), NONE);
        Texts.tell(none, "s");
        none.text(0);
        due("back(): the refused one is none", none.back(), NONE);
        Ledger.status(none, 0, 0, 0, 0, 0, 0);
    }

    private static void back() {
        Ledger.section("Promise 33: back");
        Ledger.sentence("BACK: likewise.");
        SeriesDesk x = Ledger.desk("sp7m4", "a=1", "b=x");
        x.image();
        x.drop(0);
        x.drop(1);
        due("back()", x.back(), 2);
        SeriesDesk y = Ledger.desk("sp7m4");
        y.image();
        Ledger.does(y, "a=1");
        due("back() to nothing", y.back(), 0);
        due("count(4)", y.count(4), 0);
        Ledger.sentence("NONE: no IMAGE of this RING.");
        due("back() of a new object", new SeriesDesk().back(), NONE);
        SeriesDesk z = Ledger.desk("sp7m4", "a=1");
        due("back() without an image", z.back(), NONE);
        due("count(4): nothing has changed", z.count(4), 1);
        due("image()", z.image(), 1);
        Texts.tell(z, "sp7m5");
        due("text(0)", z.text(0), 7);
        due("back() of another RING's", z.back(), NONE);
        due("count(0)", z.count(0), 0);
        Texts.tell(z, "sp7m4");
        due("text(0)", z.text(0), 7);
        due("back(): it does not come again", z.back(), NONE);
        Ledger.status(z, 0, 0, 0, 0, 0, 0);
    }

    private static void count() {
        Ledger.section("Promise 34: count");
        SeriesDesk none = new SeriesDesk();
        SeriesDesk x = Ledger.desk("sp7m4", "a=1", "b=1", "a=a+b");
        Ledger.script(x, "a=1", 0);
        Ledger.script(x, "a=1;c=2", 1);
        x.perform(1);
        Texts.tell(x, "abc d");
        Ledger.sentence("0 REGISTERS that are not empty,");
        due("count(0)", x.count(0), 3);
        due("count(0), none", none.count(0), 0);
        Ledger.sentence("1 SCRIPTS,");
        due("count(1)", x.count(1), 2);
        due("count(1), none", none.count(1), 0);
        Ledger.sentence("2 bytes of the TAPE,");
        due("count(2)", x.count(2), 5);
        due("count(2), none", none.count(2), 0);
        Ledger.sentence("3 how long the LOG is,");
        due("count(3)", x.count(3), 5);
        due("count(3), none", none.count(3), 0);
        Ledger.sentence("4 ACTS that can be UNDONE.");
        due("count(4)", x.count(4), 4);
        due("count(4), none", none.count(4), 0);
        Ledger.sentence("HIDDEN for others.");
        for (int what : new int[] {-1, 5, 6, LOW, HIGH}) {
            due("count(" + what + ")", x.count(what), HIDDEN);
            due("count(" + what + "), none", none.count(what), HIDDEN);
        }
    }
}
