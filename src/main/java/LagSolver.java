/**
 * Differential equations with delays, solved in whole numbers.
 *
 * <p>Time is told in ticks; values, slopes and the numbers of right sides are told in thousandths.
 * Every quotient is rounded toward 0, and a quotient by 0 is 0.
 */
public final class LagSolver {
    /** An argument is out of its range, or there is no such variable, delay or slot. */
    public static final int INVALID_ARGUMENT = -2000000001;
    /** The call is not possible in the present state. */
    public static final int NOT_POSSIBLE = -2000000002;
    /** A fixed limit has been reached. */
    public static final int LIMIT_REACHED = -2000000003;
    /** There is no such value. */
    public static final int NOT_FOUND = -2000000004;

    private static final int VARIABLES = 3;
    private static final int ALL_VARIABLES = (1 << VARIABLES) - 1;
    private static final int DELAYS = 3;
    private static final int SLOTS = 2;
    private static final int MAX_KEPT = 4;
    private static final int MAX_TEXT = 80;
    private static final int MAX_POINTS = 6;
    // One of the order 0, and at most three times as many of each of the orders 1 to 3.
    private static final int MAX_BREAKS = 1 + 3 + 9 + 27;
    // 400 steps of the least length 20, one more that ends early at each of the 39 break points
    // behind the time 0, and one more for each of the 512 calls that an object is used for.
    private static final int MAX_STEPS = 960;

    private static final int BOUND = 1000000000;
    private static final int FIRST_TIME = -10000;
    private static final int LAST_TIME = 8000;
    private static final int MAX_POINT_VALUE = 1000000;
    private static final int MAX_TICKS = 2000;
    private static final int MAX_CONSTANT = 5000;
    private static final int MAX_PART = 900;
    private static final int FIRST_SIGN = 33;
    private static final int LAST_SIGN = 126;

    private static final int STEP = 0;
    private static final int ROUNDS = 1;
    private static final int ORDER = 2;
    private static final int SETTINGS = 3;
    private static final int[] SETTING_LEAST = {20, 0, 0};
    private static final int[] SETTING_MOST = {500, 4, 3};

    // What a right side can use: the variables from 0 on, "t", then for each delay the values of
    // the variables then, and for each delay their slopes then.
    private static final int TIME_OPERAND = VARIABLES;
    private static final int PAST_OPERAND = TIME_OPERAND + 1;
    private static final int SLOPE_OPERAND = PAST_OPERAND + DELAYS * VARIABLES;
    private static final int OPERANDS = SLOPE_OPERAND + DELAYS * VARIABLES;

    // An entry of the code of a right side is its kind and, above these bits, its detail.
    private static final int KIND_SIZE = 4;
    private static final int KIND_BITS = 15;
    private static final int KIND_NUMBER = 0;
    private static final int KIND_OPERAND = 1;
    private static final int KIND_SUM = 2;
    private static final int KIND_DIFFERENCE = 3;
    private static final int KIND_PRODUCT = 4;
    private static final int KIND_QUOTIENT = 5;
    private static final int KIND_NEGATIVE = 6;
    private static final int KIND_MIN = 7;
    private static final int KIND_MAX = 8;

    private static final int MAX_OPEN = 6;
    private static final int MAX_ONES = 4;
    private static final int MAX_DECIMALS = 3;
    private static final int NO_FAULT = -1;

    private final Text text = new Text();
    private final State current = new State();
    private final Kept kept = new Kept();
    private final State[] slots = new State[SLOTS];
    // Made by the first call that needs it: a state is most of the room that an object takes.
    private State trial;
    private final Stepper stepper = new Stepper();

    /** Creates a problem with right sides 0, without delays and histories. */
    public LagSolver() {
    }

    // ---- the problem

    /**
     * Appends a character (33 to 126) to the text.
     *
     * @return the length of the text; INVALID_ARGUMENT; LIMIT_REACHED if it has 80 characters
     */
    public int type(int character) {
        if (!isWithin(character, FIRST_SIGN, LAST_SIGN)) {
            return INVALID_ARGUMENT;
        }
        return text.append(character) ? text.length : LIMIT_REACHED;
    }

    /**
     * Empties the text.
     *
     * @return the length that it had
     */
    public int wipe() {
        int had = text.length;
        text.empty();
        return had;
    }

    /**
     * Tells the fault of the text.
     *
     * @return its position; NOT_FOUND if it has none
     */
    public int fault() {
        int position = text.read();
        return position == NO_FAULT ? NOT_FOUND : position;
    }

    /**
     * Makes the text the right side of a variable, and empties it. This is a change.
     *
     * @return the delays that it uses, as bits; INVALID_ARGUMENT; NOT_POSSIBLE if the text has a
     *     fault
     */
    public int right(int variable) {
        if (!isVariable(variable)) {
            return INVALID_ARGUMENT;
        }
        if (text.read() != NO_FAULT) {
            return NOT_POSSIBLE;
        }
        kept.record(current);
        current.rights.take(variable, text);
        current.restart();
        text.empty();
        return delaysIn(pick(current.rights.operands, variable));
    }

    /**
     * Sets a delay to a constant part (0 to 5000) and a part that changes with time (-900 to 900).
     * This is a change.
     *
     * @return the constant part that it had; INVALID_ARGUMENT
     */
    public int delay(int delay, int constant, int part) {
        if (!isDelay(delay) || !isWithin(constant, 0, MAX_CONSTANT)
                || !isWithin(part, -MAX_PART, MAX_PART)) {
            return INVALID_ARGUMENT;
        }
        kept.record(current);
        int had = pick(current.lags.constants, delay);
        put(current.lags.constants, delay, constant);
        put(current.lags.parts, delay, part);
        current.restart();
        return had;
    }

    /**
     * Adds a point to the history of a variable, with a time (-10000 to 0) and a value (-1000000
     * to 1000000). This is a change.
     *
     * @return how many points it has then; INVALID_ARGUMENT; NOT_POSSIBLE if it has one at this
     *     time; LIMIT_REACHED if it has 6
     */
    public int point(int variable, int time, int value) {
        if (!isVariable(variable) || !isWithin(time, FIRST_TIME, 0)
                || !isWithin(value, -MAX_POINT_VALUE, MAX_POINT_VALUE)) {
            return INVALID_ARGUMENT;
        }
        if (current.histories.hasPointAt(variable, time)) {
            return NOT_POSSIBLE;
        }
        if (pick(current.histories.counts, variable) >= MAX_POINTS) {
            return LIMIT_REACHED;
        }
        kept.record(current);
        current.histories.add(variable, time, value);
        current.restart();
        return pick(current.histories.counts, variable);
    }

    /**
     * Removes all points from the history of a variable. This is a change.
     *
     * @return how many it had; INVALID_ARGUMENT
     */
    public int clear(int variable) {
        if (!isVariable(variable)) {
            return INVALID_ARGUMENT;
        }
        kept.record(current);
        int had = pick(current.histories.counts, variable);
        put(current.histories.counts, variable, 0);
        current.restart();
        return had;
    }

    /**
     * Sets a setting: 0 STEP (20 to 500), 1 ROUNDS (0 to 4), 2 ORDER (0 to 3). This is a change.
     *
     * @return what it was; INVALID_ARGUMENT
     */
    public int set(int what, int value) {
        if (!isWithin(what, 0, SETTINGS - 1)
                || !isWithin(value, pick(SETTING_LEAST, what), pick(SETTING_MOST, what))) {
            return INVALID_ARGUMENT;
        }
        kept.record(current);
        int had = pick(current.settings, what);
        put(current.settings, what, value);
        current.restart();
        return had;
    }

    /**
     * Tells the lag of a delay at a time (0 to 8000).
     *
     * @return the lag; INVALID_ARGUMENT
     */
    public int lag(int delay, int time) {
        if (!isDelay(delay) || !isWithin(time, 0, LAST_TIME)) {
            return INVALID_ARGUMENT;
        }
        return current.lags.lagAt(delay, time);
    }

    /**
     * Tells about a break point (by ascending times): 0 its time, 1 its order, 2 its delay.
     *
     * @return the number; INVALID_ARGUMENT if index is negative or what is out of range; NOT_FOUND
     *     if there are not so many, and for 2 of the time 0
     */
    public int breakAt(int index, int what) {
        if (index < 0 || !isWithin(what, 0, 2)) {
            return INVALID_ARGUMENT;
        }
        Breaks breaks = current.breaks;
        if (index >= breaks.count || (index == 0 && what == 2)) {
            return NOT_FOUND;
        }
        switch (what) {
            case 0:
                return pick(breaks.times, index);
            case 1:
                return pick(breaks.orders, index);
            default:
                return pick(breaks.delays, index);
        }
    }

    // ---- solving

    /**
     * Solves the problem further, by 1 to 2000 ticks. This is a change.
     *
     * @return the time up to which it is solved then; INVALID_ARGUMENT; LIMIT_REACHED if this
     *     would be greater than 8000
     */
    public int solve(int ticks) {
        if (!isWithin(ticks, 1, MAX_TICKS)) {
            return INVALID_ARGUMENT;
        }
        int target = current.path.endTime() + ticks;
        if (target > LAST_TIME) {
            return LIMIT_REACHED;
        }
        kept.record(current);
        stepper.advance(current, target);
        return current.path.endTime();
    }

    /**
     * Returns the value of a variable at a time (-10000 to 8000).
     *
     * @return the value; INVALID_ARGUMENT; NOT_FOUND if the problem is not solved up to this time
     */
    public int value(int variable, int time) {
        if (!isVariable(variable) || !isWithin(time, FIRST_TIME, LAST_TIME)) {
            return INVALID_ARGUMENT;
        }
        int step = current.path.stepTo(time);
        return time > current.path.endTime() ? NOT_FOUND : current.valueIn(step, variable, time);
    }

    /**
     * Returns the slope of a variable at a time (-10000 to 8000).
     *
     * @return the slope; INVALID_ARGUMENT; NOT_FOUND if the problem is not solved up to this time
     */
    public int slope(int variable, int time) {
        if (!isVariable(variable) || !isWithin(time, FIRST_TIME, LAST_TIME)) {
            return INVALID_ARGUMENT;
        }
        int step = current.path.stepTo(time);
        return time > current.path.endTime() ? NOT_FOUND : current.slopeIn(step, variable, time);
    }

    /**
     * Works out the right side of a variable at a time (0 to 8000), with the values and slopes of
     * all variables as they are told for this time and before.
     *
     * @return the result; INVALID_ARGUMENT; NOT_FOUND if the problem is not solved up to this time
     */
    public int rightAt(int variable, int time) {
        if (!isVariable(variable) || !isWithin(time, 0, LAST_TIME)) {
            return INVALID_ARGUMENT;
        }
        return time > current.path.endTime() ? NOT_FOUND
                : stepper.rightSide(current, variable, time);
    }

    /**
     * Tells about a step: 0 the time at which it begins, 1 its length, 2 to 4 the slope K of the
     * variables, 5 how many rounds it took.
     *
     * @return the number; INVALID_ARGUMENT if step is negative or what is out of range; NOT_FOUND
     *     if there are not so many
     */
    public int step(int step, int what) {
        if (step < 0 || !isWithin(what, 0, VARIABLES + 2)) {
            return INVALID_ARGUMENT;
        }
        Path path = current.path;
        if (step >= path.steps) {
            return NOT_FOUND;
        }
        if (what == 0) {
            return path.beginOf(step);
        }
        if (what == 1) {
            return path.endOf(step) - path.beginOf(step);
        }
        return what == VARIABLES + 2 ? path.roundsOf(step) : path.firstSlope(step, what - 2);
    }

    /**
     * Finds the first time, from a time (1 to 8000) on, at which the value of a variable is at
     * least the level (-1000000000 to 1000000000), and one tick earlier is less.
     *
     * @return the time; INVALID_ARGUMENT; NOT_FOUND if there is none as far as the problem is
     *     solved
     */
    public int crossing(int variable, int level, int from) {
        if (!isVariable(variable) || !isWithin(level, -BOUND, BOUND)
                || !isWithin(from, 1, LAST_TIME)) {
            return INVALID_ARGUMENT;
        }
        Path path = current.path;
        int end = path.endTime();
        if (from > end) {
            return NOT_FOUND;
        }
        int step = path.stepTo(from - 1);
        boolean wasLess = path.valueIn(step, variable, from - 1) < level;
        for (int time = from; time <= end; time++) {
            if (time > path.endOf(step)) {
                step++;
            }
            boolean isLess = path.valueIn(step, variable, time) < level;
            if (wasLess && !isLess) {
                return time;
            }
            wasLess = isLess;
        }
        return NOT_FOUND;
    }

    /**
     * Finds the greatest value that a variable has at a whole tick from one time (0 to 8000) to
     * another one (from to 8000): 0 tells this value, 1 the first time with it.
     *
     * @return the number; INVALID_ARGUMENT; NOT_FOUND if the problem is not solved up to the time
     *     to
     */
    public int greatest(int variable, int from, int to, int what) {
        if (!isVariable(variable) || !isWithin(from, 0, LAST_TIME) || !isWithin(to, from, LAST_TIME)
                || !isWithin(what, 0, 1)) {
            return INVALID_ARGUMENT;
        }
        Path path = current.path;
        if (to > path.endTime()) {
            return NOT_FOUND;
        }
        int step = path.stepTo(from);
        int best = path.valueIn(step, variable, from);
        int bestTime = from;
        for (int time = from + 1; time <= to; time++) {
            if (time > path.endOf(step)) {
                step++;
            }
            int value = path.valueIn(step, variable, time);
            if (value > best) {
                best = value;
                bestTime = time;
            }
        }
        return what == 0 ? best : bestTime;
    }

    /**
     * Solves the problem anew with another STEP (20 to 500) up to the time up to which it is
     * solved, and compares the values then. Nothing changes.
     *
     * @return the greatest size of a difference between the values of a variable, held;
     *     INVALID_ARGUMENT
     */
    public int differs(int step) {
        if (!isWithin(step, pick(SETTING_LEAST, STEP), pick(SETTING_MOST, STEP))) {
            return INVALID_ARGUMENT;
        }
        State other = trial;
        if (other == null) {
            other = new State();
            trial = other;
        }
        other.copyProblem(current);
        put(other.settings, STEP, step);
        other.restart();
        stepper.advance(other, current.path.endTime());
        long most = 0;
        for (int variable = 0; variable < VARIABLES; variable++) {
            long before = current.path.endValue(variable);
            most = Math.max(most, Math.abs(other.path.endValue(variable) - before));
        }
        return hold(most);
    }

    /**
     * Returns a number: 0 to 2 the setting, 3 the time up to which the problem is solved, 4 steps,
     * 5 break points, 6 the length of the text, 7 kept states, 8 to 10 points of the history of
     * the variable 0 to 2, 11 to 13 the part of the delay 0 to 2 that changes with time, 14 the
     * delays that the right sides use, as bits.
     *
     * @return the number; INVALID_ARGUMENT
     */
    public int count(int what) {
        switch (what) {
            case 0:
            case 1:
            case 2:
                return pick(current.settings, what);
            case 3:
                return current.path.endTime();
            case 4:
                return current.path.steps;
            case 5:
                return current.breaks.count;
            case 6:
                return text.length;
            case 7:
                return kept.count;
            case 8:
            case 9:
            case 10:
                return pick(current.histories.counts, what - 8);
            case 11:
            case 12:
            case 13:
                return pick(current.lags.parts, what - 11);
            case 14:
                return delaysIn(current.rights.allOperands());
            default:
                return INVALID_ARGUMENT;
        }
    }

    // ---- undo, saving

    /**
     * Restores the latest kept state, which is removed.
     *
     * @return how many are left; NOT_POSSIBLE if there is none
     */
    public int undo() {
        return kept.giveBack(current) ? kept.count : NOT_POSSIBLE;
    }

    /**
     * Saves the state in a slot (0 or 1), in place of the one that was saved there.
     *
     * @return the time up to which the problem is solved; INVALID_ARGUMENT
     */
    public int save(int slot) {
        if (slot < 0 || slot >= slots.length) {
            return INVALID_ARGUMENT;
        }
        State saved = slots[slot];
        if (saved == null) {
            saved = new State();
            slots[slot] = saved;
        }
        saved.copyFrom(current);
        return current.path.endTime();
    }

    /**
     * Restores the state that was saved in a slot (0 or 1), which keeps it. This is a change.
     *
     * @return the time up to which the problem is solved then; INVALID_ARGUMENT; NOT_POSSIBLE if
     *     nothing was saved in it
     */
    public int restore(int slot) {
        if (slot < 0 || slot >= slots.length) {
            return INVALID_ARGUMENT;
        }
        State saved = slots[slot];
        if (saved == null) {
            return NOT_POSSIBLE;
        }
        kept.record(current);
        current.copyFrom(saved);
        return current.path.endTime();
    }

    // ---- numbers and rows

    private static boolean isWithin(int number, int least, int most) {
        return number >= least && number <= most;
    }

    private static boolean isVariable(int number) {
        return isWithin(number, 0, VARIABLES - 1);
    }

    private static boolean isDelay(int number) {
        return isWithin(number, 0, DELAYS - 1);
    }

    private static int hold(long number) {
        return number < -BOUND ? -BOUND : number > BOUND ? BOUND : (int) number;
    }

    private static long quotient(long number, long divisor) {
        return divisor == 0 ? 0 : number / divisor;
    }

    /** Returns an element of a row, or 0 where the row has none. */
    private static int pick(int[] row, int index) {
        return row != null && index >= 0 && index < row.length ? row[index] : 0;
    }

    private static void put(int[] row, int index, int number) {
        if (row != null && index >= 0 && index < row.length) {
            row[index] = number;
        }
    }

    /** Copies the first elements of a row, as many as told, to another row. */
    private static void copyRow(int[] from, int[] to, int count) {
        if (from == null || to == null) {
            return;
        }
        int size = Math.min(count, Math.min(from.length, to.length));
        if (size > 0) {
            System.arraycopy(from, 0, to, 0, size);
        }
    }

    /** Moves the elements of a row from an index to an end up by one, to make room at the index. */
    private static void makeRoom(int[] row, int index, int end) {
        for (int n = end; n > index; n--) {
            put(row, n, pick(row, n - 1));
        }
    }

    private static boolean hasBit(int bits, int bit) {
        return ((bits >> bit) & 1) != 0;
    }

    private static int pastOperand(int delay, int variable) {
        return PAST_OPERAND + delay * VARIABLES + variable;
    }

    private static int slopeOperand(int delay, int variable) {
        return SLOPE_OPERAND + delay * VARIABLES + variable;
    }

    /** Tells whether one of the operands, which are told as bits, needs a delay. */
    private static boolean needsDelay(int operandBits, int delay) {
        int ofDelay = ALL_VARIABLES << pastOperand(delay, 0)
                | ALL_VARIABLES << slopeOperand(delay, 0);
        return (operandBits & ofDelay) != 0;
    }

    /** Returns the delays that the operands need, both as bits. */
    private static int delaysIn(int operandBits) {
        int bits = 0;
        for (int delay = 0; delay < DELAYS; delay++) {
            if (needsDelay(operandBits, delay)) {
                bits |= 1 << delay;
            }
        }
        return bits;
    }

    /** The text that is typed; reading it writes it as code for a stack. */
    private static final class Text {
        private final int[] signs = new int[MAX_TEXT];
        private int length;
        private int at;
        // Each entry of the code comes from at least one character.
        private final int[] code = new int[MAX_TEXT];
        private int codeLength;
        private int operandBits;

        boolean append(int character) {
            if (length >= MAX_TEXT) {
                return false;
            }
            put(signs, length, character);
            length++;
            return true;
        }

        void empty() {
            length = 0;
        }

        /** Reads the text as a right side; returns the position of its fault, or NO_FAULT. */
        int read() {
            at = 0;
            codeLength = 0;
            operandBits = 0;
            boolean good = readSum(0);
            return good && at == length ? NO_FAULT : at;
        }

        // The functions that read return false if they came to a fault; then it is at "at".

        private boolean readSum(int open) {
            if (open > MAX_OPEN || !readTerm(open)) {
                return false;
            }
            for (int n = 0; n < MAX_TEXT && (sign() == '+' || sign() == '-'); n++) {
                int kind = sign() == '+' ? KIND_SUM : KIND_DIFFERENCE;
                at++;
                if (!readTerm(open)) {
                    return false;
                }
                emit(kind, 0);
            }
            return true;
        }

        private boolean readTerm(int open) {
            if (!readUnit(open)) {
                return false;
            }
            for (int n = 0; n < MAX_TEXT && (sign() == '*' || sign() == '/'); n++) {
                int kind = sign() == '*' ? KIND_PRODUCT : KIND_QUOTIENT;
                at++;
                if (!readUnit(open)) {
                    return false;
                }
                emit(kind, 0);
            }
            return true;
        }

        private boolean readUnit(int open) {
            int negatives = 0;
            while (negatives < MAX_TEXT && accept('-')) {
                negatives++;
            }
            if (!readBareUnit(open)) {
                return false;
            }
            for (int n = 0; n < negatives; n++) {
                emit(KIND_NEGATIVE, 0);
            }
            return true;
        }

        private boolean readBareUnit(int open) {
            int first = sign();
            if (isDigit(first)) {
                return readNumber();
            }
            if (isWithin(first, 'x', 'z')) {
                return readName();
            }
            if (accept('t')) {
                emitOperand(TIME_OPERAND);
                return true;
            }
            if (accept('m')) {
                return readLeastOrMost(open);
            }
            return readOpen(open) && readSum(open + 1) && accept(')');
        }

        private boolean readNumber() {
            int thousandths = 0;
            for (int n = 0; n < MAX_ONES && isDigit(sign()); n++) {
                thousandths = thousandths * 10 + sign() - '0';
                at++;
            }
            thousandths *= 1000;
            if (accept('.')) {
                if (!isDigit(sign())) {
                    return false;
                }
                int weight = 100;
                for (int n = 0; n < MAX_DECIMALS && isDigit(sign()); n++) {
                    thousandths += (sign() - '0') * weight;
                    weight /= 10;
                    at++;
                }
            }
            emit(KIND_NUMBER, thousandths);
            return true;
        }

        private boolean readName() {
            int variable = sign() - 'x';
            at++;
            boolean isSlope = accept('\'');
            if (!accept('@')) {
                emitOperand(variable);
                return !isSlope;
            }
            int delay = sign() - '0';
            if (!isDelay(delay)) {
                return false;
            }
            at++;
            emitOperand(isSlope ? slopeOperand(delay, variable) : pastOperand(delay, variable));
            return true;
        }

        private boolean readLeastOrMost(int open) {
            boolean isLeast = accept('i');
            if (!isLeast && !accept('a')) {
                return false;
            }
            if (!accept(isLeast ? 'n' : 'x') || !readOpen(open) || !readSum(open + 1)
                    || !accept(',') || !readSum(open + 1) || !accept(')')) {
                return false;
            }
            emit(isLeast ? KIND_MIN : KIND_MAX, 0);
            return true;
        }

        private boolean readOpen(int open) {
            return open < MAX_OPEN && accept('(');
        }

        /** Returns the character that is read next, or 0 at the end of the text. */
        private int sign() {
            return at < length ? pick(signs, at) : 0;
        }

        private boolean accept(int character) {
            if (sign() != character) {
                return false;
            }
            at++;
            return true;
        }

        private static boolean isDigit(int character) {
            return isWithin(character, '0', '9');
        }

        private void emit(int kind, int detail) {
            if (codeLength < MAX_TEXT) {
                put(code, codeLength, (detail << KIND_SIZE) | kind);
                codeLength++;
            }
        }

        private void emitOperand(int operand) {
            emit(KIND_OPERAND, operand);
            operandBits |= 1 << operand;
        }
    }

    /** The right sides of the variables, as code for a stack. */
    private static final class Rights {
        private final int[] codes = new int[VARIABLES * MAX_TEXT];
        private final int[] lengths = new int[VARIABLES];
        // The operands that each right side uses, as bits.
        private final int[] operands = new int[VARIABLES];

        /** Makes the text that was just read the right side of a variable. */
        void take(int variable, Text text) {
            if (text == null) {
                return;
            }
            put(lengths, variable, text.codeLength);
            put(operands, variable, text.operandBits);
            for (int n = 0; n < MAX_TEXT; n++) {
                put(codes, variable * MAX_TEXT + n, pick(text.code, n));
            }
        }

        int allOperands() {
            int bits = 0;
            for (int variable = 0; variable < VARIABLES; variable++) {
                bits |= pick(operands, variable);
            }
            return bits;
        }

        /** Works out a right side from the numbers that its operands have. */
        int workOut(int variable, int[] known, int[] stack) {
            int length = Math.min(MAX_TEXT, pick(lengths, variable));
            int height = 0;
            for (int n = 0; n < length; n++) {
                int entry = pick(codes, variable * MAX_TEXT + n);
                int kind = entry & KIND_BITS;
                int detail = entry >> KIND_SIZE;
                if (kind == KIND_NUMBER || kind == KIND_OPERAND) {
                    put(stack, height, kind == KIND_NUMBER ? detail : pick(known, detail));
                    height++;
                } else if (kind == KIND_NEGATIVE) {
                    put(stack, height - 1, hold(-(long) pick(stack, height - 1)));
                } else {
                    height--;
                    int joined = join(kind, pick(stack, height - 1), pick(stack, height));
                    put(stack, height - 1, joined);
                }
            }
            return height == 1 ? pick(stack, 0) : 0;
        }

        private static int join(int kind, long a, long b) {
            switch (kind) {
                case KIND_SUM:
                    return hold(a + b);
                case KIND_DIFFERENCE:
                    return hold(a - b);
                case KIND_PRODUCT:
                    return hold(a * b / 1000);
                case KIND_QUOTIENT:
                    return hold(quotient(a * 1000, b));
                case KIND_MIN:
                    return (int) Math.min(a, b);
                default:
                    return (int) Math.max(a, b);
            }
        }

        void copyFrom(Rights other) {
            if (other == null) {
                return;
            }
            copyRow(other.codes, codes, VARIABLES * MAX_TEXT);
            copyRow(other.lengths, lengths, VARIABLES);
            copyRow(other.operands, operands, VARIABLES);
        }
    }

    /** The delays. */
    private static final class Lags {
        private final int[] constants = new int[DELAYS];
        private final int[] parts = new int[DELAYS];

        int lagAt(int delay, int time) {
            return Math.max(0, pick(constants, delay) + pick(parts, delay) * time / 1000);
        }

        /**
         * Returns the least time greater than "from" at which the time less the lag is at least
         * "from", or 0 if there is none up to the last time, or the lag is 0 then.
         */
        int reach(int delay, int from) {
            // A lag grows by one a tick at most, so the time less the lag never falls: halving
            // finds the first time.
            int low = from + 1;
            int high = LAST_TIME + 1;
            for (int n = 0; n < LAST_TIME && low < high; n++) {
                int middle = low + (high - low) / 2;
                if (middle - lagAt(delay, middle) >= from) {
                    high = middle;
                } else {
                    low = middle + 1;
                }
            }
            return low > LAST_TIME || lagAt(delay, low) == 0 ? 0 : low;
        }

        void copyFrom(Lags other) {
            if (other == null) {
                return;
            }
            copyRow(other.constants, constants, DELAYS);
            copyRow(other.parts, parts, DELAYS);
        }
    }

    /** The histories of the variables, each with its points by ascending times. */
    private static final class Histories {
        private final int[] counts = new int[VARIABLES];
        private final int[] times = new int[VARIABLES * MAX_POINTS];
        private final int[] values = new int[VARIABLES * MAX_POINTS];

        boolean hasPointAt(int variable, int time) {
            int upTo = pointsUpTo(variable, time);
            return upTo > 0 && pick(times, variable * MAX_POINTS + upTo - 1) == time;
        }

        void add(int variable, int time, int value) {
            int count = pick(counts, variable);
            if (count >= MAX_POINTS) {
                return;
            }
            int first = variable * MAX_POINTS;
            int index = first + pointsUpTo(variable, time);
            makeRoom(times, index, first + count);
            makeRoom(values, index, first + count);
            put(times, index, time);
            put(values, index, value);
            put(counts, variable, count + 1);
        }

        int valueAt(int variable, int time) {
            int count = pick(counts, variable);
            if (count == 0) {
                return 0;
            }
            int upTo = pointsUpTo(variable, time);
            int next = variable * MAX_POINTS + upTo;
            if (upTo == 0) {
                return pick(values, next);
            }
            long value = pick(values, next - 1);
            if (upTo == count) {
                return (int) value;
            }
            long begin = pick(times, next - 1);
            long rise = pick(values, next) - value;
            return (int) (value + quotient(rise * (time - begin), pick(times, next) - begin));
        }

        int slopeAt(int variable, int time) {
            int upTo = pointsUpTo(variable, time);
            if (upTo == 0 || upTo == pick(counts, variable)) {
                return 0;
            }
            int next = variable * MAX_POINTS + upTo;
            long rise = pick(values, next) - (long) pick(values, next - 1);
            return (int) quotient(rise * 1000, pick(times, next) - pick(times, next - 1));
        }

        private int pointsUpTo(int variable, int time) {
            int count = Math.min(MAX_POINTS, pick(counts, variable));
            int upTo = 0;
            while (upTo < count && pick(times, variable * MAX_POINTS + upTo) <= time) {
                upTo++;
            }
            return upTo;
        }

        void copyFrom(Histories other) {
            if (other == null) {
                return;
            }
            copyRow(other.counts, counts, VARIABLES);
            copyRow(other.times, times, VARIABLES * MAX_POINTS);
            copyRow(other.values, values, VARIABLES * MAX_POINTS);
        }
    }

    /** The break points, by ascending times; the time 0 is always the first one. */
    private static final class Breaks {
        private final int[] times = new int[MAX_BREAKS];
        private final int[] orders = new int[MAX_BREAKS];
        private final int[] delays = new int[MAX_BREAKS];
        private int count = 1;

        /** Finds the break points that the delays make, of which "used" tells the bits. */
        void find(Lags lags, int used, int lastOrder) {
            count = 1;
            // A lower order is made whole first, so that a time keeps the least order it has.
            for (int order = 0; order < lastOrder; order++) {
                addNext(lags, used, order);
            }
        }

        private void addNext(Lags lags, int used, int order) {
            if (lags == null) {
                return;
            }
            // What is added stands behind the break point that makes it.
            for (int n = 0; n < MAX_BREAKS && n < count; n++) {
                for (int delay = 0; delay < DELAYS; delay++) {
                    if (pick(orders, n) == order && hasBit(used, delay)) {
                        add(lags.reach(delay, pick(times, n)), order + 1, delay);
                    }
                }
            }
        }

        private void add(int time, int order, int delay) {
            if (time <= 0) {
                return;
            }
            int index = pointsBefore(time);
            if (index < count && pick(times, index) == time) {
                if (pick(orders, index) == order) {
                    put(delays, index, Math.min(delay, pick(delays, index)));
                }
                return;
            }
            if (count >= MAX_BREAKS) {
                return;
            }
            makeRoom(times, index, count);
            makeRoom(orders, index, count);
            makeRoom(delays, index, count);
            put(times, index, time);
            put(orders, index, order);
            put(delays, index, delay);
            count++;
        }

        /** Returns the time of the first break point behind a time, or the last time of all. */
        int next(int time) {
            int index = pointsBefore(time + 1);
            return index < count ? pick(times, index) : LAST_TIME;
        }

        private int pointsBefore(int time) {
            int before = 0;
            while (before < MAX_BREAKS && before < count && pick(times, before) < time) {
                before++;
            }
            return before;
        }

        void copyFrom(Breaks other) {
            if (other == null) {
                return;
            }
            count = other.count;
            copyRow(other.times, times, MAX_BREAKS);
            copyRow(other.orders, orders, MAX_BREAKS);
            copyRow(other.delays, delays, MAX_BREAKS);
        }
    }

    /**
     * The steps. A row tells a time at which a step begins or ends, the values then and, of the
     * step that begins then, the slopes K and the rounds.
     */
    private static final class Path {
        private static final int VALUE = 1;
        private static final int SLOPE = VALUE + VARIABLES;
        private static final int ROUND = SLOPE + VARIABLES;
        private static final int ROW = ROUND + 1;

        private final int[] rows = new int[(MAX_STEPS + 1) * ROW];
        private int steps;

        /** Removes all steps; the values at the time 0 are those of the histories. */
        void restart(Histories histories) {
            steps = 0;
            if (histories == null) {
                return;
            }
            for (int variable = 0; variable < VARIABLES; variable++) {
                put(rows, VALUE + variable, histories.valueAt(variable, 0));
            }
        }

        void append(int length, int[] slopes, int rounds, int[] values) {
            if (steps >= MAX_STEPS) {
                return;
            }
            int row = steps * ROW;
            int next = row + ROW;
            put(rows, row + ROUND, rounds);
            put(rows, next, pick(rows, row) + length);
            for (int variable = 0; variable < VARIABLES; variable++) {
                put(rows, row + SLOPE + variable, pick(slopes, variable));
                put(rows, next + VALUE + variable, pick(values, variable));
            }
            steps++;
        }

        int endTime() {
            return beginOf(steps);
        }

        int endValue(int variable) {
            return pick(rows, steps * ROW + VALUE + variable);
        }

        int beginOf(int step) {
            return pick(rows, step * ROW);
        }

        int endOf(int step) {
            return pick(rows, (step + 1) * ROW);
        }

        int firstSlope(int step, int variable) {
            return pick(rows, step * ROW + SLOPE + variable);
        }

        int roundsOf(int step) {
            return pick(rows, step * ROW + ROUND);
        }

        /** Returns the step in which a time is or that ends then; the first one up to time 0. */
        int stepTo(int time) {
            int low = 0;
            int high = steps - 1;
            for (int n = 0; n < MAX_STEPS && low < high; n++) {
                int middle = (low + high) / 2;
                if (pick(rows, (middle + 1) * ROW) >= time) {
                    high = middle;
                } else {
                    low = middle + 1;
                }
            }
            return low;
        }

        /** Returns the value at a time in a step, or that at the end where no step begins. */
        int valueIn(int step, int variable, int time) {
            int row = step * ROW;
            long value = pick(rows, row + VALUE + variable);
            if (step >= steps) {
                return (int) value;
            }
            long passed = time - pick(rows, row);
            long length = pick(rows, row + ROW) - pick(rows, row);
            long line = pick(rows, row + SLOPE + variable) * passed / 1000;
            long bend = quotient(bendOf(row, variable, length) * passed * passed, length * length);
            return hold(value + line + bend);
        }

        int slopeIn(int step, int variable, int time) {
            if (step >= steps) {
                return 0;
            }
            int row = step * ROW;
            long passed = time - pick(rows, row);
            long length = pick(rows, row + ROW) - pick(rows, row);
            long bend = 2000 * bendOf(row, variable, length) * passed;
            return hold(pick(rows, row + SLOPE + variable) + quotient(bend, length * length));
        }

        /** Returns how far the end of a step is from the line with the slope K. */
        private long bendOf(int row, int variable, long length) {
            long rise = (long) pick(rows, row + ROW + VALUE + variable)
                    - pick(rows, row + VALUE + variable);
            return rise - pick(rows, row + SLOPE + variable) * length / 1000;
        }

        void copyFrom(Path other) {
            if (other == null) {
                return;
            }
            steps = other.steps;
            copyRow(other.rows, rows, (steps + 1) * ROW);
        }
    }

    /** Everything but the text, the slots and the kept states. */
    private static final class State {
        private final Rights rights = new Rights();
        private final Lags lags = new Lags();
        private final Histories histories = new Histories();
        private final int[] settings = {100, 1, 2};
        private final Breaks breaks = new Breaks();
        private final Path path = new Path();

        /** Makes the problem solved only up to the time 0, and finds its break points. */
        void restart() {
            breaks.find(lags, delaysIn(rights.allOperands()), pick(settings, ORDER));
            path.restart(histories);
        }

        /** Returns the value at a time, with the step that the path has for this time. */
        int valueIn(int step, int variable, int time) {
            return time <= 0 ? histories.valueAt(variable, time)
                    : path.valueIn(step, variable, time);
        }

        /** Returns the slope at a time, with the step that the path has for this time. */
        int slopeIn(int step, int variable, int time) {
            return time <= 0 ? histories.slopeAt(variable, time)
                    : path.slopeIn(step, variable, time);
        }

        /** Copies all but the break points and the steps. */
        void copyProblem(State other) {
            if (other == null) {
                return;
            }
            rights.copyFrom(other.rights);
            lags.copyFrom(other.lags);
            histories.copyFrom(other.histories);
            copyRow(other.settings, settings, SETTINGS);
        }

        void copyFrom(State other) {
            if (other == null) {
                return;
            }
            copyProblem(other);
            breaks.copyFrom(other.breaks);
            path.copyFrom(other.path);
        }
    }

    /** The kept states, the latest one last. */
    private static final class Kept {
        private final State[] states = new State[MAX_KEPT];
        private int count;

        void record(State state) {
            if (count >= states.length) {
                dropOldest();
            }
            if (count < 0 || count >= states.length) {
                return;
            }
            State place = states[count];
            if (place == null) {
                place = new State();
                states[count] = place;
            }
            place.copyFrom(state);
            count++;
        }

        // The oldest state's object goes to the end, to be written anew.
        private void dropOldest() {
            if (states.length == 0) {
                return;
            }
            State oldest = states[0];
            for (int n = 1; n < states.length; n++) {
                states[n - 1] = states[n];
            }
            states[states.length - 1] = oldest;
            count = states.length - 1;
        }

        /** Writes the latest state to the one that is told, and removes it; false without one. */
        boolean giveBack(State state) {
            if (state == null || count <= 0 || count > states.length) {
                return false;
            }
            count--;
            state.copyFrom(states[count]);
            return true;
        }
    }

    /** Takes the steps; its rows are used again for each one. */
    private static final class Stepper {
        private final int[] known = new int[OPERANDS];
        private final int[] stack = new int[MAX_TEXT];
        private final int[] begin = new int[VARIABLES];
        private final int[] guess = new int[VARIABLES];
        private final int[] firstSlopes = new int[VARIABLES];
        private final int[] secondSlopes = new int[VARIABLES];

        /** Solves further up to a time. */
        void advance(State state, int target) {
            if (state == null) {
                return;
            }
            for (int n = 0; n < MAX_STEPS && state.path.endTime() < target; n++) {
                int time = state.path.endTime();
                int end = Math.min(target, state.breaks.next(time));
                takeStep(state, time, Math.min(pick(state.settings, STEP), end - time));
            }
        }

        private void takeStep(State state, int time, int length) {
            for (int variable = 0; variable < VARIABLES; variable++) {
                put(begin, variable, state.path.endValue(variable));
                put(guess, variable, pick(begin, variable));
            }
            gather(state, time, time);
            workOutSlopes(state, firstSlopes);
            for (int variable = 0; variable < VARIABLES; variable++) {
                long slope = pick(firstSlopes, variable);
                put(guess, variable, hold(pick(begin, variable) + slope * length / 1000));
            }
            boolean isShort = hasShortLag(state, time + length, length);
            int rounds = isShort ? pick(state.settings, ROUNDS) : 0;
            for (int n = 0; n <= rounds; n++) {
                gather(state, time + length, time);
                workOutSlopes(state, secondSlopes);
                for (int variable = 0; variable < VARIABLES; variable++) {
                    long slopes = (long) pick(firstSlopes, variable) + pick(secondSlopes, variable);
                    put(guess, variable, hold(pick(begin, variable) + slopes * length / 2000));
                }
            }
            state.path.append(length, firstSlopes, rounds, guess);
        }

        private static boolean hasShortLag(State state, int time, int length) {
            int used = state.rights.allOperands();
            for (int delay = 0; delay < DELAYS; delay++) {
                int lag = state.lags.lagAt(delay, time);
                if (needsDelay(used, delay) && lag != 0 && lag < length) {
                    return true;
                }
            }
            return false;
        }

        private void workOutSlopes(State state, int[] slopes) {
            for (int variable = 0; variable < VARIABLES; variable++) {
                put(slopes, variable, state.rights.workOut(variable, known, stack));
            }
        }

        /** Works out a right side at a time up to which the problem is solved. */
        int rightSide(State state, int variable, int time) {
            if (state == null) {
                return 0;
            }
            int step = state.path.stepTo(time);
            for (int n = 0; n < VARIABLES; n++) {
                put(guess, n, state.valueIn(step, n, time));
            }
            gather(state, time, time);
            return state.rights.workOut(variable, known, stack);
        }

        /**
         * Gathers what the right sides use at a time, with the guess as the values then; what is
         * behind the time "solved" comes from the line between the values then and the guess.
         */
        private void gather(State state, int time, int solved) {
            int used = state.rights.allOperands();
            put(known, TIME_OPERAND, time);
            for (int variable = 0; variable < VARIABLES; variable++) {
                put(known, variable, pick(guess, variable));
            }
            for (int delay = 0; delay < DELAYS; delay++) {
                if (!needsDelay(used, delay)) {
                    continue;
                }
                int past = time - state.lags.lagAt(delay, time);
                int step = state.path.stepTo(past);
                for (int variable = 0; variable < VARIABLES; variable++) {
                    int operand = pastOperand(delay, variable);
                    if (hasBit(used, operand)) {
                        put(known, operand, past > solved
                                ? guessedValue(variable, past - solved, time - solved)
                                : state.valueIn(step, variable, past));
                    }
                    operand = slopeOperand(delay, variable);
                    if (hasBit(used, operand)) {
                        put(known, operand, past > solved
                                ? guessedSlope(variable, time - solved)
                                : state.slopeIn(step, variable, past));
                    }
                }
            }
        }

        private int guessedValue(int variable, int passed, int length) {
            long value = pick(begin, variable);
            long rise = pick(guess, variable) - value;
            return hold(value + quotient(rise * passed, length));
        }

        private int guessedSlope(int variable, int length) {
            long rise = (long) pick(guess, variable) - pick(begin, variable);
            return hold(quotient(rise * 1000, length));
        }
    }
}
