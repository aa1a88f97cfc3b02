import java.util.ArrayList;
import java.util.List;

/** Every call that can be refused, in states of all sorts, beside an object that is not called: all stays alike. */
final class Refusals {
    private interface Call {
        int of(SeriesDesk x);
    }

    private record Refused(String name, String tape, Call call, int answer, int reason) {
    }

    private static final int NONE = Ledger.NONE;
    private static final int HIDDEN = Ledger.HIDDEN;
    private static final int ALL_CALLS = 512;
    private static final String NEW = "a new object";
    private static final String SCRIPT = "a SCRIPT alone";
    private static final String RING = "a RING alone";
    private static final String FULL = "a full desk";

    private static List<Refused> list = new ArrayList<>();

    private Refusals() {
    }

    static void all() {
        Ledger.section("What it is");
        fiveHundredAndTwelve();
        Ledger.section("Terms");
        Ledger.sentence("What is refused answers as told and changes nothing but STATUS.");
        everywhere();
        held(NEW, SCRIPT, RING, FULL);
        withoutRing();
        held(NEW, SCRIPT);
        withoutRegisters();
        held(NEW, SCRIPT, RING);
        withoutScripts();
        held(NEW);
        withoutImage();
        held(NEW, SCRIPT, RING);
        fullDesk();
        steps();
        texts();
        held(FULL);
    }

    private static void fiveHundredAndTwelve() {
        Ledger.sentence("An object is used for at most 512 calls after it has been made;");
        SeriesDesk x = new SeriesDesk();
        Ledger.due("feed", x.feed(0x73700000, 0x37, 0, 0, 0), 3);
        Ledger.due("text(0)", x.text(0), 7);
        int made = 2;
        while (made + 3 < ALL_CALLS) {
            Ledger.due("feed", x.feed(0x613d0000, '0' + made % 7, 0, 0, 0), 3);
            Ledger.due("step()", x.step(), 12);
            Ledger.due("coefficient(0, 0)", x.coefficient(0, 0), made % 7);
            made += 3;
        }
        while (made < ALL_CALLS) {
            Ledger.due("count(4)", x.count(4), 40);
            made++;
        }
        Ledger.sentence("what later calls answer is free.");
        Ledger.due("calls made", made, ALL_CALLS);
    }

    private static SeriesDesk made(String state) {
        SeriesDesk x = new SeriesDesk();
        if (state.equals(NEW)) {
            return x;
        }
        Ledger.script(x, "f=a*b;h=f", 0);
        if (state.equals(SCRIPT)) {
            Texts.tell(x, "a=1+");
            return x;
        }
        Texts.tell(x, "sp7m4");
        Ledger.due("text(0)", x.text(0), 7);
        if (state.equals(RING)) {
            return x;
        }
        Ledger.script(x, "f=a;h=g", 1);
        Ledger.script(x, "f=a;h=Q2(3);f=g", 2);
        Ledger.script(x, "f=a;h=D(e)", 3);
        for (String step : new String[] {"a=2+x", "b=T3(3+4*x)", "c=x", "e=T1(6)"}) {
            Ledger.does(x, step);
        }
        Ledger.due("image()", x.image(), 4);
        Ledger.due("cut(1, 2)", x.cut(1, 2), 3);
        Ledger.due("perform(0)", x.perform(0), 2);
        Ledger.due("swap(2, 6)", x.swap(2, 6), 0);
        Ledger.due("swap(2, 6)", x.swap(2, 6), 4);
        Ledger.due("drop(5)", x.drop(5), 2);
        Texts.tell(x, "d=a+1000");
        return x;
    }

    /** Each call of the list: its answer and its STATUS, and that nothing else is other than without it. */
    private static void held(String... states) {
        for (String state : states) {
            for (Refused one : list) {
                held(state, one);
            }
        }
        list = new ArrayList<>();
    }

    private static void held(String state, Refused one) {
        SeriesDesk x = made(state);
        SeriesDesk y = made(state);
        if (one.tape() != null) {
            Texts.tell(x, one.tape());
            Texts.tell(y, one.tape());
        }
        String name = one.name() + " of " + state + (one.tape() == null ? "" : ", TAPE " + one.tape());
        Ledger.due(name, one.call().of(x), one.answer());
        for (int what = 0; what < 6; what++) {
            Ledger.due(name + ": status(" + what + ")", x.status(what), y.status(what) + (what == one.reason() ? 1 : 0));
        }
        Ledger.same(name, x, y);
    }

    private static void ask(String name, int answer, Call call) {
        list.add(new Refused(name, null, call, answer, NONE));
    }

    private static void act(String name, int reason, Call call) {
        list.add(new Refused(name, null, call, NONE, reason));
    }

    /** What no state lets be. */
    private static void everywhere() {
        ask("feed of more than 320", NONE, x -> {
            int made = x.count(2);
            for (int i = 0; i < 16; i++) {
                x.feed(-1, -1, -1, -1, -1);
            }
            int answer = x.feed(-1, -1, -1, -1, -1);
            x.end(made);
            return answer;
        });
        ask("end(-1)", 0, x -> x.end(-1) ? 1 : 0);
        ask("end(321)", 0, x -> x.end(321) ? 1 : 0);
        ask("fault(3)", -2, x -> x.fault(3));
        ask("fault(-1)", -2, x -> x.fault(-1));
        ask("text(0)", NONE, x -> x.text(0));
        ask("text(1)", NONE, x -> x.text(1));
        ask("text(2)", NONE, x -> x.text(2));
        ask("text(-1)", NONE, x -> x.text(-1));
        ask("rule(2)", NONE, x -> x.rule(2));
        ask("known(8)", NONE, x -> x.known(8));
        ask("coefficient(8, 0)", HIDDEN, x -> Ledger.coefficient(x, 8, 0));
        ask("coefficient(0, 4)", HIDDEN, x -> Ledger.coefficient(x, 0, 4));
        ask("order(8)", NONE, x -> x.order(8));
        act("cut(8, 1)", 0, x -> x.cut(8, 1));
        act("cut(3, 0)", 0, x -> x.cut(3, 0));
        act("drop(8)", 0, x -> x.drop(8));
        act("drop(3)", 0, x -> x.drop(3));
        act("swap(0, 8)", 0, x -> x.swap(0, 8));
        act("swap(-1, 0)", 0, x -> x.swap(-1, 0));
        act("swap(3, 5)", 0, x -> x.swap(3, 5));
        act("swap(3, 3)", 0, x -> x.swap(3, 3));
        act("perform(4)", 0, x -> x.perform(4));
        act("perform(-1)", 0, x -> x.perform(-1));
        ask("years(0, 1)", NONE, x -> x.years(0, 1));
        ask("years(41, 1)", NONE, x -> x.years(41, 1));
        ask("status(6)", NONE, x -> x.status(6));
        ask("log(60, 0)", HIDDEN, x -> x.log(60, 0));
        ask("log(0, 3)", HIDDEN, x -> x.log(0, 3));
        ask("alike(0, 8)", NONE, x -> x.alike(0, 8));
        ask("alike(0, 3)", NONE, x -> x.alike(0, 3));
        ask("value(0, 997)", NONE, x -> x.value(0, 997));
        ask("value(3, 0)", NONE, x -> x.value(3, 0));
        ask("newton(0, 5, 0)", NONE, x -> x.newton(0, 5, 0));
        ask("newton(3, 0, 0)", NONE, x -> x.newton(3, 0, 0));
        ask("solve(8, ...)", NONE, x -> x.solve(8, 0, 0, 0, 0, 0));
        ask("solve from 997", NONE, x -> x.solve(NONE, 0, NONE, NONE, 997, 0));
        ask("solve of nothing", NONE, x -> x.solve(NONE, NONE, NONE, NONE, 0, 0));
        ask("starts(8, ...)", HIDDEN, x -> x.starts(8, 0, 0, 0, 0));
        ask("starts, what 2", HIDDEN, x -> x.starts(NONE, NONE, NONE, NONE, 2));
        ask("recur(8, 0)", NONE, x -> x.recur(8, 0));
        ask("recur(0, 9)", NONE, x -> x.recur(0, 9));
        ask("one(8)", NONE, x -> x.one(8));
        ask("sums(8, 0)", NONE, x -> x.sums(8, 0));
        ask("sums(0, 4)", NONE, x -> x.sums(0, 4));
        ask("run(4, 0)", HIDDEN, x -> x.run(4, 0));
        ask("run(0, 3)", HIDDEN, x -> x.run(0, 3));
        ask("target(4, 0)", NONE, x -> x.target(4, 0));
        ask("target(0, 8)", NONE, x -> x.target(0, 8));
        ask("most(7)", HIDDEN, x -> x.most(7));
        ask("count(5)", HIDDEN, x -> x.count(5));
        ask("would(24)", HIDDEN, x -> x.would(24));
    }

    private static void withoutRing() {
        ask("rule(0)", NONE, x -> x.rule(0));
        ask("known(0)", NONE, x -> x.known(0));
        act("step()", 0, x -> x.step());
        list.add(new Refused("step()", "a=1", x -> x.step(), NONE, 0));
        list.add(new Refused("would(0)", "a=1", x -> x.would(0), HIDDEN, NONE));
        list.add(new Refused("why()", "a=1", x -> x.why(), 0, NONE));
        act("perform(0)", 0, x -> x.perform(0));
        ask("years(1, 1)", NONE, x -> x.years(1, 1));
        ask("solve(-1, ...)", NONE, x -> x.solve(NONE, NONE, NONE, NONE, 0, NONE));
        ask("starts(-1, ...)", HIDDEN, x -> x.starts(NONE, NONE, NONE, NONE, 0));
        ask("run(0, 0)", HIDDEN, x -> x.run(0, 0));
        ask("most(0)", HIDDEN, x -> x.most(0));
        ask("image()", NONE, x -> x.image());
    }

    private static void withoutRegisters() {
        ask("coefficient(0, 0)", HIDDEN, x -> Ledger.coefficient(x, 0, 0));
        ask("order(0)", NONE, x -> x.order(0));
        act("cut(0, 1)", 0, x -> x.cut(0, 1));
        act("drop(0)", 0, x -> x.drop(0));
        act("swap(0, 1)", 0, x -> x.swap(0, 1));
        act("swap(0, 0)", 0, x -> x.swap(0, 0));
        ask("undo()", NONE, x -> x.undo());
        ask("log(0, 0)", HIDDEN, x -> x.log(0, 0));
        ask("alike(0, 0)", NONE, x -> x.alike(0, 0));
        ask("value(0, 0)", NONE, x -> x.value(0, 0));
        ask("newton(0, 0, -1)", NONE, x -> x.newton(0, 0, NONE));
        ask("solve(0, ...)", NONE, x -> x.solve(0, NONE, NONE, NONE, 0, NONE));
        ask("starts(0, ...)", HIDDEN, x -> x.starts(0, NONE, NONE, NONE, 0));
        ask("recur(0, 0)", NONE, x -> x.recur(0, 0));
        ask("one(0)", NONE, x -> x.one(0));
        ask("sums(0, 0)", NONE, x -> x.sums(0, 0));
        act("perform(0)", 0, x -> x.perform(0));
    }

    private static void withoutScripts() {
        ask("run(0, 0)", HIDDEN, x -> x.run(0, 0));
        ask("target(0, -1)", NONE, x -> x.target(0, NONE));
    }

    private static void withoutImage() {
        ask("back()", NONE, x -> x.back());
        ask("undo()", NONE, x -> x.undo());
    }

    private static void fullDesk() {
        act("cut(0, 0)", 1, x -> x.cut(0, 0));
        act("cut(0, -5)", 1, x -> x.cut(0, -5));
        act("cut(0, 4)", 2, x -> x.cut(0, 4));
        act("cut(1, 3)", 2, x -> x.cut(1, 3));
        act("swap(0, 0)", 2, x -> x.swap(0, 0));
        act("swap(7, 7)", 2, x -> x.swap(7, 7));
        act("perform(1)", 0, x -> x.perform(1));
        act("perform(2)", 4, x -> x.perform(2));
        act("perform(3)", 5, x -> x.perform(3));
        ask("run(1, 2)", NONE, x -> x.run(1, 2));
        ask("run(2, 1)", 4, x -> x.run(2, 1));
        ask("newton(2, 0, 0)", NONE, x -> x.newton(2, 0, 0));
        ask("newton(0, 0, 1)", NONE, x -> x.newton(0, 0, 1));
        ask("solve from a start that can't be", NONE, x -> x.solve(0, 1, NONE, NONE, 0, 0));
        ask("solve from 7", NONE, x -> x.solve(NONE, 0, NONE, NONE, 7, 0));
        ask("one(2)", NONE, x -> x.one(2));
        ask("recur(4, 0)", NONE, x -> x.recur(4, 0));
        ask("coefficient(1, 2)", HIDDEN, x -> Ledger.coefficient(x, 1, 2));
        ask("sums(1, 2)", NONE, x -> x.sums(1, 2));
    }

    private static void steps() {
        String[] told = {"h=d", "h=a+", "h=a/c", "h=1000+d", "h=Q7(a)", "h=Q2(3)+d", "h=D(e)", "h=C(a,a)", "a=a*a;", "", "d"};
        int[] reasons = {0, 1, 2, 1, 3, 4, 5, 2, 1, 1, 1};
        for (int i = 0; i < told.length; i++) {
            int reason = reasons[i];
            list.add(new Refused("step()", told[i], x -> x.step(), NONE, reason));
            list.add(new Refused("would(0)", told[i], x -> x.would(0), HIDDEN, NONE));
            list.add(new Refused("would(-1)", told[i], x -> x.would(NONE), HIDDEN, NONE));
            list.add(new Refused("why()", told[i], x -> x.why(), reason, NONE));
        }
        list.add(new Refused("would(4)", "h=a", x -> x.would(4), HIDDEN, NONE));
        list.add(new Refused("would(-2)", "h=a", x -> x.would(-2), HIDDEN, NONE));
    }

    private static void texts() {
        list.add(new Refused("text(1), a fifth one", "a=1", x -> x.text(1), NONE, NONE));
        list.add(new Refused("text(2), a STEP", "a=1", x -> x.text(2), NONE, NONE));
        list.add(new Refused("text(0), no prime", "sp9", x -> x.text(0), NONE, NONE));
        list.add(new Refused("text(0), too short", "sp", x -> x.text(0), NONE, NONE));
        list.add(new Refused("text(0), m 25", "sp5m25", x -> x.text(0), NONE, NONE));
    }
}
