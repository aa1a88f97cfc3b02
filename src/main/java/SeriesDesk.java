import java.util.Arrays;
import java.util.NoSuchElementException;

/** Power series by a prime, each known to some length, in eight registers. See README.md. */
public final class SeriesDesk {
    public static final int NONE = -1;
    public static final int HIDDEN = -1000000;

    private static final int REGISTERS = 8;
    private static final int LONGEST = 24;
    private static final int SCRIPTS = 4;
    private static final int MOST_STEPS = 8;
    private static final int MOST_ATOMS = 24;
    private static final int MOST_BRACKETS = 8;
    private static final int TAPE_BYTES = 320;
    private static final int UNDOABLE = 40;
    private static final int NOTES = 60;
    private static final int MOST_YEARS = 40;
    private static final int GREATEST_POWER = 99;
    private static final int GREATEST_VALUE = 996;

    // The REASONS, numbered as STATUS tells them.
    private static final int ABSENT = 0;
    private static final int FAULTY = 1;
    private static final int UNFIT = 2;
    private static final int DIVIDED = 3;
    private static final int ROOTLESS = 4;
    private static final int UNKNOWN = 5;
    private static final int REASONS = 6;

    // The sorts of TEXT.
    private static final int RING = 0;
    private static final int SCRIPT = 1;
    private static final int STEP = 2;

    // The sorts of what the LOG notes.
    private static final int NOTE_DONE = 0;
    private static final int NOTE_CUT = 1;
    private static final int NOTE_DROPPED = 2;
    private static final int NOTE_CHANGED = 3;

    // Operations of a STEP. Their order tells how many SERIES each one takes:
    // none below UNARY, one below BINARY, two from there on.
    private static final int OP_NUMBER = 0;
    private static final int OP_X = 1;
    private static final int OP_REGISTER = 2;
    private static final int UNARY = 3;
    private static final int OP_POWER = 3;
    private static final int OP_DERIVE = 4;
    private static final int OP_INTEGRATE = 5;
    private static final int OP_LOGARITHM = 6;
    private static final int OP_EXPONENTIAL = 7;
    private static final int OP_REVERT = 8;
    private static final int OP_ROOT = 9;
    private static final int OP_SHORTEN = 10;
    private static final int BINARY = 11;
    private static final int OP_ADD = 11;
    private static final int OP_SUBTRACT = 12;
    private static final int OP_MULTIPLY = 13;
    private static final int OP_DIVIDE = 14;
    private static final int OP_COMPOSE = 15;
    private static final int OP_MATCH = 16;

    private final Tape tape = new Tape();
    private final Code draft = new Code(TAPE_BYTES);
    private final Reader reader = new Reader(tape, draft);
    private final Algebra algebra = new Algebra();
    private final Machine machine = new Machine(algebra);
    private final Recurrence recurrence = new Recurrence();
    private final Series looked = new Series();
    private final State state = new State();
    private final State trial = new State();
    private final State kept = new State();
    private final History history = new History();
    private final Code[] scripts = new Code[SCRIPTS];
    private final int[] refused = new int[REASONS];
    private int scriptCount;
    private boolean ringTold;
    private boolean imaged;
    private int stuckAt;
    private long seedNow;

    public SeriesDesk() {
    }

    public int feed(int a, int b, int c, int d, int e) {
        int come = bytesIn(a) + bytesIn(b) + bytesIn(c) + bytesIn(d) + bytesIn(e);
        if (tape.length + come > TAPE_BYTES) {
            return NONE;
        }
        tape.take(a);
        tape.take(b);
        tape.take(c);
        tape.take(d);
        tape.take(e);
        return tape.length;
    }

    public boolean end(int n) {
        if (n < 0 || n > tape.length) {
            return false;
        }
        tape.length = n;
        return true;
    }

    public int fault(int sort) {
        return sort < RING || sort > STEP ? -2 : reader.faultAs(sort);
    }

    public int text(int sort) {
        if (sort != RING && sort != SCRIPT) {
            return NONE;
        }
        if (sort == SCRIPT && scriptCount >= SCRIPTS) {
            return NONE;
        }
        if (reader.faultAs(sort) != NONE) {
            return NONE;
        }
        tape.length = 0;
        return sort == RING ? takeRing() : takeScript();
    }

    public int rule(int what) {
        if (!ringTold || what < 0 || what > 1) {
            return NONE;
        }
        return what == 0 ? algebra.prime : algebra.most;
    }

    public int step() {
        int reason = tapeReason();
        if (reason != NONE) {
            return refuse(reason);
        }
        tape.length = 0;
        return settle(draft.targets[0]);
    }

    public int would(int i) {
        if (tapeReason() != NONE) {
            return HIDDEN;
        }
        Series come = machine.result();
        if (i == NONE) {
            return come.length;
        }
        return i < 0 || i >= come.length ? HIDDEN : come.c[i];
    }

    public int why() {
        return tapeReason();
    }

    public int known(int register) {
        return !ringTold || register < 0 || register >= REGISTERS ? NONE : state.lengths[register];
    }

    public int coefficient(int register, int i) throws NoSuchElementException {
        if (i < 0 || i >= lengthOf(register)) {
            throw new NoSuchElementException("not known");
        }
        return state.cell(register, i);
    }

    public int order(int register) {
        return lengthOf(register) == 0 ? NONE : state.firstNotZero(register);
    }

    public int cut(int register, int n) {
        int length = lengthOf(register);
        if (length == 0) {
            return refuse(ABSENT);
        }
        if (n < 1) {
            return refuse(FAULTY);
        }
        if (n >= length) {
            return refuse(UNFIT);
        }
        history.keep(state);
        state.lengths[register] = n;
        state.note(NOTE_CUT, register);
        return length;
    }

    public int drop(int register) {
        int length = lengthOf(register);
        if (length == 0) {
            return refuse(ABSENT);
        }
        history.keep(state);
        state.lengths[register] = 0;
        state.note(NOTE_DROPPED, register);
        return length;
    }

    public int swap(int register, int other) {
        if (register < 0 || register >= REGISTERS || other < 0 || other >= REGISTERS) {
            return refuse(ABSENT);
        }
        if (lengthOf(register) == 0 && lengthOf(other) == 0) {
            return refuse(ABSENT);
        }
        if (register == other) {
            return refuse(UNFIT);
        }
        history.keep(state);
        state.exchange(register, other);
        state.note(NOTE_CHANGED, register);
        return state.lengths[register];
    }

    public int perform(int script) {
        Code code = scriptOf(script);
        if (code == null || !ringTold) {
            return refuse(ABSENT);
        }
        int reason = rehearse(code);
        if (reason != NONE) {
            return refuse(reason);
        }
        history.keep(state);
        state.copy(trial);
        return code.steps;
    }

    public int years(int n, long seed) {
        if (!ringTold || n < 1 || n > MOST_YEARS) {
            return NONE;
        }
        seedNow = seed;
        for (int year = 0; year < n; year++) {
            draftYear();
            if (machine.work(draft, 0, state) == NONE) {
                settle(draft.targets[0]);
            }
        }
        return state.filled();
    }

    public int status(int what) {
        return what < 0 || what >= REASONS ? NONE : refused[what];
    }

    public int undo() {
        return history.restore(state);
    }

    public int log(int i, int what) {
        return state.noted(i, what);
    }

    public int alike(int register, int other) {
        int length = Math.min(lengthOf(register), lengthOf(other));
        if (length == 0) {
            return NONE;
        }
        int same = 0;
        while (same < length && state.cell(register, same) == state.cell(other, same)) {
            same++;
        }
        return same;
    }

    public int value(int register, int n) {
        if (lengthOf(register) == 0 || n < 0 || n > GREATEST_VALUE) {
            return NONE;
        }
        state.load(register, looked);
        return algebra.valueAt(looked, n);
    }

    public int newton(int register, int k, int i) {
        if (lengthOf(register) == 0 || k < 0 || k > 4 || state.cell(register, 0) == 0) {
            return NONE;
        }
        int places = Math.min(1 << k, state.lengths[register]);
        if (i == NONE) {
            return places;
        }
        if (i < 0 || i >= places) {
            return NONE;
        }
        state.load(register, looked);
        // Doubling never goes beyond what it has, so each of its rows is the INVERSE so far.
        looked.length = places;
        algebra.invert(looked);
        return looked.c[i];
    }

    public int solve(int r0, int r1, int r2, int r3, int start, int i) {
        if (!gather(r0, r1, r2, r3) || start < 0 || start >= algebra.prime) {
            return NONE;
        }
        if (!algebra.startsAt(start)) {
            return NONE;
        }
        int length = algebra.cubicLength();
        if (i == NONE) {
            return length;
        }
        if (i < 0 || i >= length) {
            return NONE;
        }
        return algebra.cubicRoot(start, length).c[i];
    }

    public int starts(int r0, int r1, int r2, int r3, int what) {
        if (what < 0 || what > 1 || !gather(r0, r1, r2, r3)) {
            return HIDDEN;
        }
        int number = 0;
        int least = NONE;
        for (int start = algebra.prime - 1; start >= 0; start--) {
            if (algebra.startsAt(start)) {
                number++;
                least = start;
            }
        }
        return what == 0 ? number : least;
    }

    public int recur(int register, int i) {
        int length = lengthOf(register);
        if (length == 0 || i < 0) {
            return NONE;
        }
        state.load(register, looked);
        int shortest = recurrence.find(looked, algebra);
        if (length < 2 * shortest || i > shortest) {
            return NONE;
        }
        return i == 0 ? shortest : recurrence.factor(i, algebra.prime);
    }

    public int one(int register) {
        if (lengthOf(register) == 0) {
            return NONE;
        }
        state.load(register, looked);
        return algebra.powerToOne(looked);
    }

    public int sums(int register, int i) {
        if (i < 0 || i >= lengthOf(register)) {
            return NONE;
        }
        int sum = 0;
        for (int place = 0; place <= i; place++) {
            sum += state.cell(register, place);
        }
        return algebra.reduce(sum);
    }

    public int run(int script, int what) {
        Code code = scriptOf(script);
        if (code == null || !ringTold || what < 0 || what > 2) {
            return HIDDEN;
        }
        int reason = rehearse(code);
        if (what == 0) {
            return reason == NONE ? NONE : stuckAt;
        }
        if (what == 1) {
            return reason;
        }
        return reason == NONE ? trial.lengths[code.targets[code.steps - 1]] : NONE;
    }

    public int target(int script, int i) {
        Code code = scriptOf(script);
        if (code == null) {
            return NONE;
        }
        if (i == NONE) {
            return code.steps;
        }
        return i < 0 || i >= code.steps ? NONE : code.targets[i];
    }

    public int most(int what) {
        if (!ringTold) {
            return HIDDEN;
        }
        switch (what) {
            case 0:
                return state.filledBits();
            case 1:
                return state.longest();
            case 2:
                return state.deepest();
            case 3:
                return state.knownInAll();
            case 4:
                return state.notZeroInAll();
            case 5:
                return state.greatest();
            case 6:
                return state.zeroFirstBits();
            default:
                return HIDDEN;
        }
    }

    public int image() {
        if (!ringTold) {
            return NONE;
        }
        kept.copy(state);
        imaged = true;
        return state.filled();
    }

    public int back() {
        if (!imaged) {
            return NONE;
        }
        state.copy(kept);
        history.clear();
        return state.filled();
    }

    public int count(int what) {
        switch (what) {
            case 0:
                return state.filled();
            case 1:
                return scriptCount;
            case 2:
                return tape.length;
            case 3:
                return state.notes;
            case 4:
                return history.size;
            default:
                return HIDDEN;
        }
    }

    private static int bytesIn(int number) {
        int bytes = 0;
        for (int shift = 24; shift >= 0; shift -= 8) {
            if ((number >>> shift & 255) != 0) {
                bytes++;
            }
        }
        return bytes;
    }

    private int takeRing() {
        algebra.setRing(reader.prime, reader.most);
        state.clear();
        history.clear();
        ringTold = true;
        imaged = false;
        return algebra.prime;
    }

    private int takeScript() {
        scripts[scriptCount] = draft.shortCopy();
        scriptCount++;
        return scriptCount - 1;
    }

    /** Empty registers and those that are not there are alike: nothing of them is known. */
    private int lengthOf(int register) {
        return register < 0 || register >= REGISTERS ? 0 : state.lengths[register];
    }

    private Code scriptOf(int script) {
        return script < 0 || script >= scriptCount ? null : scripts[script];
    }

    private int refuse(int reason) {
        if (reason >= 0 && reason < REASONS) {
            refused[reason]++;
        }
        return NONE;
    }

    private int tapeReason() {
        if (!ringTold) {
            return ABSENT;
        }
        if (reader.faultAs(STEP) != NONE) {
            return FAULTY;
        }
        return machine.work(draft, 0, state);
    }

    private int settle(int register) {
        history.keep(state);
        state.store(register, machine.result());
        state.note(NOTE_DONE, register);
        return state.lengths[register];
    }

    /** Does a SCRIPT's STEPS on the trial state alone; stuckAt is the STEP that has the REASON. */
    private int rehearse(Code code) {
        trial.copy(state);
        for (int at = 0; at < code.steps; at++) {
            int reason = machine.work(code, at, trial);
            if (reason != NONE) {
                stuckAt = at;
                return reason;
            }
            trial.store(code.targets[at], machine.result());
            trial.note(NOTE_DONE, code.targets[at]);
        }
        return NONE;
    }

    private int draw(int j) {
        seedNow = seedNow * 6364136223846793005L + 1442695040888963407L;
        return j < 1 ? 0 : (int) ((seedNow >>> 33) % j);
    }

    private void draftYear() {
        draft.clear();
        draft.open(draw(REGISTERS));
        int sort = draw(6);
        if (sort == 0) {
            draft.add(OP_NUMBER, draw(algebra.prime));
            draft.add(OP_NUMBER, draw(algebra.prime));
            draft.add(OP_X, 0);
            draft.add(OP_MULTIPLY, 0);
            draft.add(OP_ADD, 0);
        } else if (sort == 1 || sort == 2) {
            draft.add(OP_REGISTER, draw(REGISTERS));
            draft.add(OP_REGISTER, draw(REGISTERS));
            draft.add(sort == 1 ? OP_ADD : OP_MULTIPLY, 0);
        } else if (sort == 3) {
            draft.add(OP_REGISTER, draw(REGISTERS));
            draft.add(OP_DERIVE, 0);
        } else if (sort == 4) {
            draft.add(OP_NUMBER, 1);
            draft.add(OP_REGISTER, draw(REGISTERS));
            draft.add(OP_DIVIDE, 0);
        } else {
            draft.add(OP_REGISTER, draw(REGISTERS));
            draft.add(OP_SHORTEN, draw(algebra.most) + 1);
        }
        draft.close();
    }

    private boolean gather(int r0, int r1, int r2, int r3) {
        return ringTold && gatherOne(0, r0) && gatherOne(1, r1) && gatherOne(2, r2) && gatherOne(3, r3);
    }

    private boolean gatherOne(int degree, int register) {
        if (register == NONE) {
            algebra.setNumber(algebra.cubic[degree], 0);
            return true;
        }
        if (lengthOf(register) == 0) {
            return false;
        }
        state.load(register, algebra.cubic[degree]);
        return true;
    }

    /** The bytes that have come. */
    private static final class Tape {
        final int[] bytes = new int[TAPE_BYTES];
        int length;

        void take(int number) {
            for (int shift = 24; shift >= 0; shift -= 8) {
                int one = number >>> shift & 255;
                if (one != 0 && length < TAPE_BYTES) {
                    bytes[length] = one;
                    length++;
                }
            }
        }
    }

    /** STEPS as operations on a stack, each STEP behind the one ahead of it. */
    private static final class Code {
        private static final int ARGUMENTS = 1000;

        private final int[] operations;
        final int[] begins = new int[MOST_STEPS + 1];
        final int[] targets = new int[MOST_STEPS];
        int steps;
        private int size;

        Code(int room) {
            operations = new int[room < 0 ? 0 : room];
        }

        void clear() {
            steps = 0;
            size = 0;
        }

        boolean open(int register) {
            if (steps >= MOST_STEPS) {
                return false;
            }
            targets[steps] = register;
            return true;
        }

        boolean close() {
            if (steps >= MOST_STEPS) {
                return false;
            }
            steps++;
            begins[steps] = size;
            return true;
        }

        boolean add(int operation, int argument) {
            if (size >= operations.length) {
                return false;
            }
            operations[size] = operation * ARGUMENTS + argument;
            size++;
            return true;
        }

        int operationAt(int at) {
            return at < 0 || at >= size ? OP_NUMBER : operations[at] / ARGUMENTS;
        }

        int argumentAt(int at) {
            return at < 0 || at >= size ? 0 : operations[at] % ARGUMENTS;
        }

        Code shortCopy() {
            Code copy = new Code(size);
            System.arraycopy(operations, 0, copy.operations, 0, size);
            System.arraycopy(begins, 0, copy.begins, 0, begins.length);
            System.arraycopy(targets, 0, copy.targets, 0, targets.length);
            copy.steps = steps;
            copy.size = size;
            return copy;
        }
    }

    /** Reads the TAPE as a TEXT. Wherever a reading answers false, the FAULT is at its place. */
    private static final class Reader {
        private static final int NOTHING = 0;
        private static final int BLANK = 32;

        private final Tape tape;
        private final Code code;
        private int place;
        private int atoms;
        private int number;
        int prime;
        int most;

        Reader(Tape tape, Code code) {
            this.tape = tape;
            this.code = code;
        }

        int faultAs(int sort) {
            place = 0;
            boolean whole = sort == RING ? readRing() : readSteps(sort == SCRIPT ? MOST_STEPS : 1);
            return whole ? NONE : place;
        }

        private boolean readRing() {
            prime = 7;
            most = 12;
            boolean primeTold = false;
            boolean mostTold = false;
            if (!readSign('s')) {
                return false;
            }
            for (int items = 0; items <= 2 && next() != NOTHING; items++) {
                if (!primeTold && readSign('p')) {
                    if (!readPrime()) {
                        return false;
                    }
                    prime = number;
                    primeTold = true;
                } else if (!mostTold && readSign('m')) {
                    if (!readNumber(2, LONGEST)) {
                        return false;
                    }
                    most = number;
                    mostTold = true;
                } else {
                    return false;
                }
            }
            return true;
        }

        private boolean readPrime() {
            if (!readNumber(2, 997)) {
                return false;
            }
            for (int divisor = 2; divisor * divisor <= number; divisor++) {
                if (number % divisor == 0) {
                    place--;
                    return false;
                }
            }
            return true;
        }

        private boolean readSteps(int limit) {
            code.clear();
            for (int read = 1; read <= limit; read++) {
                if (!readStep()) {
                    return false;
                }
                if (next() == NOTHING) {
                    return true;
                }
                if (read == limit || !readSign(';')) {
                    return false;
                }
            }
            return false;
        }

        private boolean readStep() {
            int letter = next();
            if (letter < 'a' || letter > 'h' || !code.open(letter - 'a')) {
                return false;
            }
            place++;
            atoms = 0;
            return readSign('=') && readExpression(0) && code.close();
        }

        // Each TERM has an ATOM at least, so no more than MOST_ATOMS can follow; likewise each POWER.
        private boolean readExpression(int depth) {
            if (!readTerm(depth)) {
                return false;
            }
            for (int more = 0; more < MOST_ATOMS; more++) {
                int sign = next();
                if (sign != '+' && sign != '-') {
                    return true;
                }
                place++;
                if (!readTerm(depth) || !code.add(sign == '+' ? OP_ADD : OP_SUBTRACT, 0)) {
                    return false;
                }
            }
            return false;
        }

        private boolean readTerm(int depth) {
            if (!readPower(depth)) {
                return false;
            }
            for (int more = 0; more < MOST_ATOMS; more++) {
                int sign = next();
                if (sign != '*' && sign != '/') {
                    return true;
                }
                place++;
                if (!readPower(depth) || !code.add(sign == '*' ? OP_MULTIPLY : OP_DIVIDE, 0)) {
                    return false;
                }
            }
            return false;
        }

        private boolean readPower(int depth) {
            if (!readAtom(depth)) {
                return false;
            }
            if (!readSign('^')) {
                return true;
            }
            return readNumber(0, GREATEST_POWER) && code.add(OP_POWER, number);
        }

        private boolean readAtom(int depth) {
            int sign = next();
            if (sign == '(') {
                return readBracket(depth);
            }
            if (atoms >= MOST_ATOMS) {
                return false;
            }
            atoms++;
            if (sign >= '0' && sign <= '9') {
                return readNumber(0, 999) && code.add(OP_NUMBER, number);
            }
            if (sign == 'x') {
                place++;
                return code.add(OP_X, 0);
            }
            if (sign >= 'a' && sign <= 'h') {
                place++;
                return code.add(OP_REGISTER, sign - 'a');
            }
            return readFunction(sign, depth);
        }

        private boolean readFunction(int sign, int depth) {
            switch (sign) {
                case 'D':
                    return readOfOne(depth, OP_DERIVE);
                case 'S':
                    return readOfOne(depth, OP_INTEGRATE);
                case 'L':
                    return readOfOne(depth, OP_LOGARITHM);
                case 'E':
                    return readOfOne(depth, OP_EXPONENTIAL);
                case 'R':
                    return readOfOne(depth, OP_REVERT);
                case 'Q':
                    return readRoot(depth);
                case 'T':
                    return readShortened(depth);
                case 'C':
                    place++;
                    return readOpening(depth) && readExpression(depth + 1) && readSign(',')
                        && readExpression(depth + 1) && readSign(')') && code.add(OP_COMPOSE, 0);
                case 'H':
                    place++;
                    return readOpening(depth) && readMatched(depth + 1);
                default:
                    return false;
            }
        }

        private boolean readOfOne(int depth, int operation) {
            place++;
            return readBracket(depth) && code.add(operation, 0);
        }

        private boolean readRoot(int depth) {
            place++;
            int digit = next();
            if (digit < '2' || digit > '9') {
                return false;
            }
            place++;
            return readBracket(depth) && code.add(OP_ROOT, digit - '0');
        }

        private boolean readShortened(int depth) {
            place++;
            if (!readNumber(1, LONGEST)) {
                return false;
            }
            int length = number;
            return readBracket(depth) && code.add(OP_SHORTEN, length);
        }

        private boolean readMatched(int depth) {
            if (!readExpression(depth)) {
                return false;
            }
            for (int read = 1; read < 6; read++) {
                if (read >= 2 && readSign(')')) {
                    return true;
                }
                if (!readSign(',') || !readExpression(depth) || !code.add(OP_MATCH, 0)) {
                    return false;
                }
            }
            return readSign(')');
        }

        private boolean readBracket(int depth) {
            return readOpening(depth) && readExpression(depth + 1) && readSign(')');
        }

        private boolean readOpening(int depth) {
            if (next() != '(' || depth >= MOST_BRACKETS) {
                return false;
            }
            place++;
            return true;
        }

        private boolean readSign(int wanted) {
            if (next() != wanted) {
                return false;
            }
            place++;
            return true;
        }

        private boolean readNumber(int low, int high) {
            next();
            number = 0;
            int digits = 0;
            while (digits < 3 && digitAt(place)) {
                number = number * 10 + tape.bytes[place] - '0';
                place++;
                digits++;
            }
            // A fourth digit is the FAULT even where the three ahead of it are out of bounds.
            if (digits == 0 || digitAt(place)) {
                return false;
            }
            if (number < low || number > high) {
                place--;
                return false;
            }
            return true;
        }

        private boolean digitAt(int at) {
            return at >= 0 && at < tape.length && tape.bytes[at] >= '0' && tape.bytes[at] <= '9';
        }

        private int next() {
            while (place < tape.length && tape.bytes[place] == BLANK) {
                place++;
            }
            return place < tape.length ? tape.bytes[place] : NOTHING;
        }
    }

    /** Coefficients c, known so far as length says; what stands beyond is of no meaning. */
    private static final class Series {
        final int[] c = new int[LONGEST];
        int length;

        int first() {
            for (int i = 0; i < length; i++) {
                if (c[i] != 0) {
                    return i;
                }
            }
            return length;
        }

        void copy(Series other) {
            System.arraycopy(other.c, 0, c, 0, LONGEST);
            length = other.length;
        }

        void shorten(int n) {
            length = Math.min(length, n);
        }

        void widen(int n) {
            int wide = Math.min(n, LONGEST);
            for (int i = length; i < wide; i++) {
                c[i] = 0;
            }
            length = wide;
        }

        void withoutFirst(int n) {
            if (n > 0 && n <= length) {
                System.arraycopy(c, n, c, 0, length - n);
                length -= n;
            }
        }
    }

    /** Calculates by PRIME. What can fail answers its REASON, or NONE; its result is in its first SERIES. */
    private static final class Algebra {
        private final int[] row = new int[LONGEST];
        private final Series power = new Series();
        private final Series square = new Series();
        private final Series lifted = new Series();
        private final Series gap = new Series();
        private final Series slope = new Series();
        final Series[] cubic = {new Series(), new Series(), new Series(), new Series()};
        private int prime = 2;
        private int most = 2;

        /** PRIME divides, MOST bounds rows: so what they must not be is refused here, once for all. */
        void setRing(int newPrime, int newMost) {
            if (newPrime >= 2 && newMost >= 2 && newMost <= LONGEST) {
                prime = newPrime;
                most = newMost;
            }
        }

        int reduce(int number) {
            return number % prime;
        }

        // By Fermat: a number to the PRIME less 2 is its inverse.
        int inverseOf(int number) {
            int result = 1;
            int squared = number % prime;
            for (int rest = prime - 2; rest > 0; rest >>= 1) {
                if ((rest & 1) == 1) {
                    result = result * squared % prime;
                }
                squared = squared * squared % prime;
            }
            return result;
        }

        private boolean isRoot(int number, int k, int wanted) {
            int product = 1;
            for (int times = 0; times < k; times++) {
                product = product * number % prime;
            }
            return product == wanted;
        }

        void setNumber(Series f, int number) {
            Arrays.fill(f.c, 0);
            f.c[0] = number % prime;
            f.length = most;
        }

        void setX(Series f) {
            setNumber(f, 0);
            f.c[1] = 1;
        }

        void addTimes(Series f, Series g, int factor) {
            f.length = Math.min(f.length, g.length);
            for (int i = 0; i < f.length; i++) {
                f.c[i] = (f.c[i] + factor * g.c[i]) % prime;
            }
        }

        void match(Series f, Series g) {
            f.shorten(g.length);
            for (int i = 0; i < f.length; i++) {
                f.c[i] = f.c[i] * g.c[i] % prime;
            }
        }

        void multiply(Series f, Series g) {
            int fFirst = f.first();
            int fLength = f.length;
            int gLength = g.length;
            int length = Math.min(most, Math.min(fFirst + gLength, g.first() + fLength));
            // From the last place down: what is still needed of f is not written over, even if g is f.
            for (int i = length - 1; i >= 0; i--) {
                int sum = 0;
                int last = Math.min(i, fLength - 1);
                for (int j = Math.max(fFirst, i - gLength + 1); j <= last; j++) {
                    sum += f.c[j] * g.c[i - j];
                }
                f.c[i] = sum % prime;
            }
            f.length = length;
        }

        // In whatever order alike ones are multiplied, the product is known equally far.
        void raise(Series f, int exponent) {
            square.copy(f);
            setNumber(f, 1);
            for (int rest = exponent; rest > 0; rest >>= 1) {
                if ((rest & 1) == 1) {
                    multiply(f, square);
                }
                if (rest > 1) {
                    multiply(square, square);
                }
            }
        }

        /** The first coefficient of f is not 0. */
        void invert(Series f) {
            int head = inverseOf(f.c[0]);
            row[0] = head;
            for (int i = 1; i < f.length; i++) {
                int sum = 0;
                for (int j = 1; j <= i; j++) {
                    sum += f.c[j] * row[i - j];
                }
                row[i] = (prime - sum % prime) * head % prime;
            }
            System.arraycopy(row, 0, f.c, 0, f.length);
        }

        int divide(Series f, Series g) {
            int behind = g.first();
            if (behind == g.length || behind > f.first()) {
                return UNFIT;
            }
            if (behind == f.length) {
                return UNKNOWN;
            }
            f.withoutFirst(behind);
            g.withoutFirst(behind);
            invert(g);
            multiply(f, g);
            return NONE;
        }

        int derive(Series f) {
            if (f.length < 2) {
                return UNKNOWN;
            }
            for (int i = 1; i < f.length; i++) {
                f.c[i - 1] = f.c[i] * i % prime;
            }
            f.length--;
            return NONE;
        }

        int integrate(Series f) {
            int length = Math.min(f.length + 1, most);
            if (prime < length) {
                if (f.c[prime - 1] != 0) {
                    return DIVIDED;
                }
                length = prime;
            }
            for (int k = length - 1; k >= 1; k--) {
                f.c[k] = f.c[k - 1] * inverseOf(k) % prime;
            }
            f.c[0] = 0;
            f.length = length;
            return NONE;
        }

        int logarithm(Series f) {
            if (f.c[0] != 1) {
                return UNFIT;
            }
            if (f.length == 1) {
                f.c[0] = 0;
                return NONE;
            }
            gap.copy(f);
            invert(gap);
            derive(f);
            multiply(f, gap);
            return integrate(f);
        }

        int exponential(Series f) {
            if (f.c[0] != 0) {
                return UNFIT;
            }
            f.shorten(prime);
            row[0] = 1;
            for (int k = 1; k < f.length; k++) {
                int sum = 0;
                for (int j = 1; j <= k; j++) {
                    sum += j * f.c[j] % prime * row[k - j];
                }
                row[k] = sum % prime * inverseOf(k) % prime;
            }
            System.arraycopy(row, 0, f.c, 0, f.length);
            return NONE;
        }

        // What reverts f from the left does so from the right, too: so x is taken apart into powers of f.
        int revert(Series f) {
            if (f.length < 2 || f.c[0] != 0 || f.c[1] == 0) {
                return UNFIT;
            }
            Arrays.fill(row, 0);
            row[1] = 1;
            int head = inverseOf(f.c[1]);
            int headPower = 1;
            lifted.c[0] = 0;
            setNumber(power, 1);
            for (int j = 1; j < f.length; j++) {
                multiply(power, f);
                power.shorten(f.length);
                headPower = headPower * head % prime;
                int factor = row[j] * headPower % prime;
                lifted.c[j] = factor;
                for (int i = j; i < power.length; i++) {
                    row[i] = (row[i] + (prime - factor) * power.c[i]) % prime;
                }
            }
            lifted.length = f.length;
            f.copy(lifted);
            return NONE;
        }

        int root(Series f, int k) {
            if (f.c[0] == 0) {
                return UNFIT;
            }
            if (k % prime == 0) {
                return DIVIDED;
            }
            int start = 1;
            while (start < prime && !isRoot(start, k, f.c[0])) {
                start++;
            }
            if (start >= prime) {
                return ROOTLESS;
            }
            lifted.length = 1;
            lifted.c[0] = start;
            for (int places = 1; places < f.length; places *= 2) {
                lifted.widen(Math.min(2 * places, f.length));
                slope.copy(lifted);
                raise(slope, k - 1);
                gap.copy(slope);
                multiply(gap, lifted);
                addTimes(gap, f, prime - 1);
                scale(slope, k);
                lift();
            }
            f.copy(lifted);
            return NONE;
        }

        private void scale(Series f, int factor) {
            for (int i = 0; i < f.length; i++) {
                f.c[i] = f.c[i] * factor % prime;
            }
        }

        /** Takes the gap that is left, by the slope there, off: right to twice as many places then. */
        private void lift() {
            slope.shorten(lifted.length);
            invert(slope);
            multiply(gap, slope);
            addTimes(lifted, gap, prime - 1);
        }

        int compose(Series f, Series g) {
            if (g.c[0] != 0) {
                return UNFIT;
            }
            int length = Math.min(most, f.length * g.first());
            int last = lastNotZero(f);
            Arrays.fill(row, 0);
            setNumber(power, 1);
            for (int j = 0; j <= last; j++) {
                if (j > 0) {
                    multiply(power, g);
                }
                if (f.c[j] != 0) {
                    length = Math.min(length, power.length);
                    for (int i = 0; i < length; i++) {
                        row[i] = (row[i] + f.c[j] * power.c[i]) % prime;
                    }
                }
            }
            if (length < 1) {
                return UNKNOWN;
            }
            System.arraycopy(row, 0, f.c, 0, length);
            f.length = length;
            return NONE;
        }

        private int lastNotZero(Series f) {
            int last = f.length - 1;
            while (last >= 0 && f.c[last] == 0) {
                last--;
            }
            return last;
        }

        int valueAt(Series f, int n) {
            int x = n % prime;
            int sum = 0;
            for (int i = f.length - 1; i >= 0; i--) {
                sum = (sum * x + f.c[i]) % prime;
            }
            return sum;
        }

        // With a first coefficient 1, the least power that comes to one is a power of PRIME.
        int powerToOne(Series f) {
            if (f.c[0] == 0) {
                return NONE;
            }
            int n = 1;
            int head = f.c[0];
            while (head != 1 && n <= GREATEST_POWER) {
                head = head * f.c[0] % prime;
                n++;
            }
            if (n > GREATEST_POWER) {
                return NONE;
            }
            raise(f, n);
            while (!isOne(f)) {
                n *= prime;
                if (n > GREATEST_POWER) {
                    return NONE;
                }
                raise(f, prime);
            }
            return n;
        }

        private boolean isOne(Series f) {
            return f.c[0] == 1 && lastNotZero(f) == 0;
        }

        int cubicLength() {
            int length = most;
            for (int degree = 0; degree <= 3; degree++) {
                length = Math.min(length, cubic[degree].length);
            }
            return length;
        }

        boolean startsAt(int y) {
            int c1 = cubic[1].c[0];
            int c2 = cubic[2].c[0];
            int c3 = cubic[3].c[0];
            int sum = (((c3 * y + c2) % prime * y + c1) % prime * y + cubic[0].c[0]) % prime;
            int bySlope = ((3 * c3 * y + 2 * c2) % prime * y + c1) % prime;
            return sum == 0 && bySlope != 0;
        }

        /** From a start that can be, told by startsAt. */
        Series cubicRoot(int start, int length) {
            lifted.length = 1;
            lifted.c[0] = start;
            for (int places = 1; places < length; places *= 2) {
                lifted.widen(Math.min(2 * places, length));
                gap.copy(cubic[3]);
                slope.copy(cubic[3]);
                scale(slope, 3);
                multiply(gap, lifted);
                addTimes(gap, cubic[2], 1);
                multiply(gap, lifted);
                addTimes(gap, cubic[1], 1);
                multiply(gap, lifted);
                addTimes(gap, cubic[0], 1);
                multiply(slope, lifted);
                addTimes(slope, cubic[2], 2);
                multiply(slope, lifted);
                addTimes(slope, cubic[1], 1);
                lift();
            }
            return lifted;
        }
    }

    /** Does the operations of a STEP on a stack, reading REGISTERS of a state and changing none. */
    private static final class Machine {
        private final Algebra algebra;
        private final Series[] stack = new Series[MOST_ATOMS];
        private int height;

        Machine(Algebra algebra) {
            this.algebra = algebra;
            for (int i = 0; i < MOST_ATOMS; i++) {
                stack[i] = new Series();
            }
        }

        Series result() {
            return stack[0];
        }

        int work(Code code, int step, State state) {
            height = 0;
            if (step < 0 || step >= code.steps) {
                return FAULTY;
            }
            for (int at = code.begins[step]; at < code.begins[step + 1]; at++) {
                int operation = code.operationAt(at);
                int argument = code.argumentAt(at);
                int reason;
                if (operation < UNARY) {
                    reason = push(operation, argument, state);
                } else if (operation < BINARY) {
                    reason = ofOne(operation, argument);
                } else {
                    reason = ofTwo(operation);
                }
                if (reason != NONE) {
                    return reason;
                }
            }
            return NONE;
        }

        private int push(int operation, int argument, State state) {
            if (height >= MOST_ATOMS) {
                return FAULTY;
            }
            Series f = stack[height];
            height++;
            if (operation == OP_NUMBER) {
                algebra.setNumber(f, argument);
                return NONE;
            }
            if (operation == OP_X) {
                algebra.setX(f);
                return NONE;
            }
            state.load(argument, f);
            return f.length == 0 ? ABSENT : NONE;
        }

        private int ofOne(int operation, int argument) {
            if (height < 1) {
                return FAULTY;
            }
            Series f = stack[height - 1];
            switch (operation) {
                case OP_DERIVE:
                    return algebra.derive(f);
                case OP_INTEGRATE:
                    return algebra.integrate(f);
                case OP_LOGARITHM:
                    return algebra.logarithm(f);
                case OP_EXPONENTIAL:
                    return algebra.exponential(f);
                case OP_REVERT:
                    return algebra.revert(f);
                case OP_ROOT:
                    return algebra.root(f, argument);
                case OP_SHORTEN:
                    f.shorten(argument);
                    return NONE;
                default:
                    algebra.raise(f, argument);
                    return NONE;
            }
        }

        private int ofTwo(int operation) {
            if (height < 2) {
                return FAULTY;
            }
            height--;
            Series f = stack[height - 1];
            Series g = stack[height];
            switch (operation) {
                case OP_ADD:
                    algebra.addTimes(f, g, 1);
                    return NONE;
                case OP_SUBTRACT:
                    algebra.addTimes(f, g, algebra.prime - 1);
                    return NONE;
                case OP_MULTIPLY:
                    algebra.multiply(f, g);
                    return NONE;
                case OP_DIVIDE:
                    return algebra.divide(f, g);
                case OP_COMPOSE:
                    return algebra.compose(f, g);
                default:
                    algebra.match(f, g);
                    return NONE;
            }
        }
    }

    /** The shortest recurrence of a row, found place by place (Berlekamp and Massey). */
    private static final class Recurrence {
        private static final int SIZE = LONGEST + 1;

        private int[] now = new int[SIZE];
        private int[] before = new int[SIZE];
        private int[] spare = new int[SIZE];

        int find(Series f, Algebra algebra) {
            int prime = algebra.prime;
            Arrays.fill(now, 0);
            Arrays.fill(before, 0);
            now[0] = 1;
            before[0] = 1;
            int shortest = 0;
            int apart = 1;
            int missedBefore = 1;
            for (int n = 0; n < f.length; n++) {
                int missed = missedAt(f, n, shortest) % prime;
                if (missed == 0) {
                    apart++;
                    continue;
                }
                int factor = missed * algebra.inverseOf(missedBefore) % prime;
                boolean longer = 2 * shortest <= n;
                if (longer) {
                    System.arraycopy(now, 0, spare, 0, SIZE);
                }
                for (int i = apart; i < SIZE; i++) {
                    now[i] = (now[i] + (prime - factor) * before[i - apart]) % prime;
                }
                apart++;
                if (longer) {
                    shortest = n + 1 - shortest;
                    missedBefore = missed;
                    apart = 1;
                    int[] free = before;
                    before = spare;
                    spare = free;
                }
            }
            return shortest;
        }

        private int missedAt(Series f, int n, int shortest) {
            int sum = 0;
            for (int i = 0; i <= shortest && i <= n; i++) {
                sum += now[i] * f.c[n - i];
            }
            return sum;
        }

        int factor(int i, int prime) {
            return i < 1 || i >= SIZE || now[i] == 0 ? 0 : prime - now[i];
        }
    }

    /** REGISTERS and the LOG: what ACTS change, and what is kept to be so again. */
    private static final class State {
        final int[] lengths = new int[REGISTERS];
        private final int[] cells = new int[REGISTERS * LONGEST];
        private final int[] noteRow = new int[NOTES];
        int notes;

        void clear() {
            Arrays.fill(lengths, 0);
            notes = 0;
        }

        void copy(State other) {
            System.arraycopy(other.lengths, 0, lengths, 0, REGISTERS);
            System.arraycopy(other.cells, 0, cells, 0, REGISTERS * LONGEST);
            System.arraycopy(other.noteRow, 0, noteRow, 0, NOTES);
            notes = other.notes;
        }

        int cell(int register, int i) {
            int at = register * LONGEST + i;
            return at < 0 || at >= cells.length ? 0 : cells[at];
        }

        void load(int register, Series f) {
            if (register < 0 || register >= REGISTERS) {
                f.length = 0;
                return;
            }
            System.arraycopy(cells, register * LONGEST, f.c, 0, LONGEST);
            f.length = lengths[register];
        }

        void store(int register, Series f) {
            if (register >= 0 && register < REGISTERS) {
                System.arraycopy(f.c, 0, cells, register * LONGEST, LONGEST);
                lengths[register] = f.length;
            }
        }

        void exchange(int register, int other) {
            int length = lengths[register];
            lengths[register] = lengths[other];
            lengths[other] = length;
            for (int i = 0; i < LONGEST; i++) {
                int cell = cells[register * LONGEST + i];
                cells[register * LONGEST + i] = cells[other * LONGEST + i];
                cells[other * LONGEST + i] = cell;
            }
        }

        void note(int sort, int register) {
            if (notes == NOTES) {
                System.arraycopy(noteRow, 1, noteRow, 0, NOTES - 1);
                notes--;
            }
            noteRow[notes] = sort * 1000 + register * 100 + lengths[register];
            notes++;
        }

        int noted(int i, int what) {
            if (i < 0 || i >= notes) {
                return HIDDEN;
            }
            int noted = noteRow[notes - 1 - i];
            switch (what) {
                case 0:
                    return noted / 1000;
                case 1:
                    return noted / 100 % 10;
                case 2:
                    return noted % 100;
                default:
                    return HIDDEN;
            }
        }

        int firstNotZero(int register) {
            int first = 0;
            while (first < lengths[register] && cell(register, first) == 0) {
                first++;
            }
            return first;
        }

        int filled() {
            return Integer.bitCount(filledBits());
        }

        int filledBits() {
            int bits = 0;
            for (int register = 0; register < REGISTERS; register++) {
                if (lengths[register] > 0) {
                    bits |= 1 << register;
                }
            }
            return bits;
        }

        int longest() {
            int best = NONE;
            for (int register = 0; register < REGISTERS; register++) {
                if (lengths[register] > 0 && (best == NONE || lengths[register] > lengths[best])) {
                    best = register;
                }
            }
            return best;
        }

        int deepest() {
            int best = NONE;
            int bestFirst = NONE;
            for (int register = 0; register < REGISTERS; register++) {
                if (lengths[register] > 0 && firstNotZero(register) > bestFirst) {
                    best = register;
                    bestFirst = firstNotZero(register);
                }
            }
            return best;
        }

        int knownInAll() {
            int sum = 0;
            for (int register = 0; register < REGISTERS; register++) {
                sum += lengths[register];
            }
            return sum;
        }

        int notZeroInAll() {
            int sum = 0;
            for (int register = 0; register < REGISTERS; register++) {
                for (int i = 0; i < lengths[register]; i++) {
                    if (cell(register, i) != 0) {
                        sum++;
                    }
                }
            }
            return sum;
        }

        int greatest() {
            int greatest = 0;
            for (int register = 0; register < REGISTERS; register++) {
                for (int i = 0; i < lengths[register]; i++) {
                    greatest = Math.max(greatest, cell(register, i));
                }
            }
            return greatest;
        }

        int zeroFirstBits() {
            int bits = 0;
            for (int register = 0; register < REGISTERS; register++) {
                if (lengths[register] > 0 && cell(register, 0) == 0) {
                    bits |= 1 << register;
                }
            }
            return bits;
        }
    }

    /** States as they were ahead of the latest ACTS, going round; made when first needed, used again. */
    private static final class History {
        private final State[] states = new State[UNDOABLE];
        private int nextAt;
        int size;

        void clear() {
            size = 0;
        }

        void keep(State state) {
            if (states[nextAt] == null) {
                states[nextAt] = new State();
            }
            states[nextAt].copy(state);
            nextAt = (nextAt + 1) % UNDOABLE;
            size = Math.min(size + 1, UNDOABLE);
        }

        int restore(State state) {
            int latest = (nextAt + UNDOABLE - 1) % UNDOABLE;
            if (size == 0 || states[latest] == null) {
                return NONE;
            }
            state.copy(states[latest]);
            nextAt = latest;
            size--;
            return size;
        }
    }
}
