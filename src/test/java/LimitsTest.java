/** The empty and the full: text, right sides, histories, kept states, slots, break points, steps, calls. */
public final class LimitsTest {
    private static final int INVALID = LagSolver.INVALID_ARGUMENT;
    private static final int NOT_POSSIBLE = LagSolver.NOT_POSSIBLE;
    private static final int LIMIT = LagSolver.LIMIT_REACHED;
    private static final int NOT_FOUND = LagSolver.NOT_FOUND;
    private static final String TO_8000 = "solve(2000) solve(2000) solve(2000) solve(2000) ";
    private static final Tally TALLY = new Tally();

    public static void main(String[] args) {
        emptyText();
        fullText();
        digits();
        digitsOfDelays();
        openBrackets();
        endsTooEarly();
        emptyHistory();
        fullHistory();
        noRightSides();
        noKeptStates();
        fullKeptStates();
        emptySlots();
        fullSlots();
        onlyTheTimeZero();
        fullBreakPoints();
        breakPointsUpTo8000();
        noSteps();
        lastStep();
        solvedTo8000();
        lastCall();
        behindTheLastCall();
        TALLY.end("LimitsTest");
    }

    private static void part(String sentence) {
        TALLY.part(sentence);
    }

    private static int faultOf(String text) {
        Calls s = new Calls(TALLY);
        s.type(text);
        return s.ask("fault()");
    }

    private static void noFault(String text) {
        TALLY.due("fault of " + text, faultOf(text), NOT_FOUND);
    }

    private static void fault(String text, int position) {
        TALLY.due("fault of " + text, faultOf(text), position);
    }

    // ---- the text

    private static void emptyText() {
        part("fault: also if the text is empty");
        Calls s = new Calls(TALLY);
        s.due("count(6)", 0);
        s.due("fault()", 0);
        s.due("wipe()", 0);
        s.due("right(0)", NOT_POSSIBLE);
        s.due("type(120)", 1);
        s.due("fault()", NOT_FOUND);
        s.due("wipe()", 1);
        s.due("fault()", 0);
        s.due("wipe()", 0);
        s.due("right(2)", NOT_POSSIBLE);
        part("right empties the text");
        s.due("type(120)", 1);
        s.due("right(0)", 0);
        s.due("count(6)", 0);
        s.due("fault()", 0);
        s.due("wipe()", 0);
        s.due("right(0)", NOT_POSSIBLE);
        s.due("type(120)", 1);
    }

    private static void fullText() {
        part("a text has at most 80 characters");
        Calls s = new Calls(TALLY);
        s.type("1+".repeat(39));
        s.due("count(6)", 78);
        s.due("type(49)", 79);
        s.due("fault()", NOT_FOUND);
        s.due("type(57)", 80);
        s.due("type(57)", LIMIT);
        s.due("type(31)", INVALID);
        s.due("count(6)", 80);
        s.due("fault()", NOT_FOUND);
        part("all 80 characters are read");
        s.due("right(1)", 0);
        s.due("rightAt(1, 0)", 39000 + 19000);
        s.due("count(6)", 0);
        s.due("type(57)", 1);
        part("a full text that ends too early");
        fault("1+".repeat(40), 80);
        fault("-".repeat(80), 80);
        fault("-".repeat(78) + "ma", 80);
        fault("-".repeat(79) + "m", 80);
        fault("-".repeat(78) + "x@", 80);
        fault("-".repeat(78) + "x'", 80);
        fault("-".repeat(78) + "1.", 80);
        fault("-".repeat(75) + "(x-12", 80);
        part("a fault at the last character");
        fault("1+".repeat(39) + "1x", 79);
        fault("1+".repeat(39) + "1)", 79);
        part("a character that is too much is not read");
        fault("-".repeat(80) + "x", 80);
        noFault("-".repeat(79) + "xyz");
        part("wipe empties a full text");
        s = new Calls(TALLY);
        s.type("y".repeat(80));
        s.due("type(121)", LIMIT);
        s.due("wipe()", 80);
        s.due("type(121)", 1);
        s.due("fault()", NOT_FOUND);
        part("a full text of units that need the most room");
        s = new Calls(TALLY);
        s.right(0, "1+(1+(1+(1+(1+(1+(1+1+1*1*1*1*1*1*1*1*1*1*1*1*1*1*1*1*1*1*1*1*1*1*1*1*1))))))");
        s.due("count(6)", 0);
        s.due("rightAt(0, 0)", 9000);
        s = new Calls(TALLY);
        s.right(0, "1-(1-(1-(1-(1-(1-(" + "1*".repeat(27) + "5))))))");
        s.due("count(6)", 0);
        s.due("rightAt(0, 0)", 5000);
    }

    private static void digits() {
        part("a number has 1 to 4 digits (zeros in front may stand)");
        noFault("1");
        noFault("1234");
        noFault("0000");
        noFault("0009");
        fault("12345", 4);
        fault("00001", 4);
        fault("00000", 4);
        fault("x+12345", 6);
        part("and perhaps \".\" and 1 to 3 digits more");
        noFault("1.2");
        noFault("1.234");
        noFault("9999.999");
        noFault("0000.000");
        fault("1.", 2);
        fault("1.+2", 2);
        fault("1.2345", 5);
        fault("1.0000", 5);
        fault(".5", 0);
        fault("12345.5", 4);
        fault("1.2.3", 3);
        fault("1..2", 2);
        Object[][] rows = {
            {"0", 0}, {"0.001", 1}, {"0000.001", 1}, {"0.01", 10}, {"0.1", 100}, {"0.100", 100}, {"1", 1000},
            {"0001", 1000}, {"9999", 9999000}, {"9999.9", 9999900}, {"9999.99", 9999990},
            {"9999.999", 9999999}, {"0000.000", 0}};
        for (Object[] row : rows) {
            Calls s = new Calls(TALLY);
            s.right(0, (String) row[0]);
            s.due("rightAt(0, 0)", (Integer) row[1]);
        }
        part("digits are 0 to 9, signs next to them are none");
        fault("1/", 2);
        fault("1:", 1);
        fault("/1", 0);
        fault(":", 0);
        fault("1./", 2);
        fault("1.:", 2);
    }

    private static void digitsOfDelays() {
        part("a digit is 0, 1 or 2");
        for (String name : new String[] {"x", "y", "z", "x'", "y'", "z'"}) {
            int length = name.length();
            for (int d = 0; d <= 2; d++) {
                Calls s = new Calls(TALLY);
                s.type(name + "@" + d);
                s.due("fault()", NOT_FOUND);
                s.due("right(0)", 1 << d);
            }
            fault(name + "@3", length + 1);
            fault(name + "@9", length + 1);
            fault(name + "@/", length + 1);
            fault(name + "@:", length + 1);
            fault(name + "@", length + 1);
            fault(name + "@00", length + 2);
            fault(name + "@0'", length + 2);
        }
        part("a name is x, y or z");
        fault("w", 0);
        fault("{", 0);
        fault("w@0", 0);
        fault("{@0", 0);
        fault("X", 0);
        fault("xy", 1);
        part("a sign ahead of the delay needs it");
        fault("x'", 2);
        fault("x'0", 2);
        fault("x'+1", 2);
        fault("x''@0", 2);
        fault("x@'0", 2);
        fault("t@0", 1);
        fault("t'@0", 1);
        fault("1@0", 1);
        fault("(x)@0", 3);
    }

    private static void openBrackets() {
        part("\"(\" may be in at most 5 others that are open");
        noFault("((((((x))))))");
        fault("(((((((x)))))))", 6);
        noFault("(((((x)+(x)))))+((((((x))))))");
        noFault("((((((x)))))-(x))+((((((x))))))");
        fault("((((((x)))))-((x)))+((((((x+(1)))))))", 28);
        fault("((((((1+(", 8);
        fault("((((((-(", 7);
        fault("((((((1*(1", 8);
        part("also that of min and max");
        noFault("min(min(min(min(min(min(1,2),2),2),2),2),2)");
        fault("min(min(min(min(min(min(min(1,2),2),2),2),2),2),2)", 27);
        fault("max(max(max(max(max(max(max(1,2),2),2),2),2),2),2)", 27);
        noFault("max(1,max(1,max(1,max(1,max(1,max(1,2))))))");
        fault("max(1,max(1,max(1,max(1,max(1,max(1,max(1,2)))))))", 39);
        noFault("(((((max(1,2))))))");
        fault("((((((max(1,2)))))))", 9);
        fault("((((((min(1,2)))))))", 9);
        fault("min(((((((1,2", 9);
        noFault("min(((((( 1".replace(" ", "") + "))))),(((((2))))))");
        fault("min(1,((((((2", 11);
        part("brackets that are closed do not count");
        noFault("(1)+(1)+(1)+(1)+(1)+(1)+(1)+(1)+min(1,1)+max(1,1)");
        noFault("((1)+(1)+(1)+(1)+(1)+(1)+(1)+(1)+min(1,1)+max(1,1))");
    }

    private static void endsTooEarly() {
        part("its length if it ends too early");
        String[] early = {"", "-", "--", "x+", "x-", "x*", "x/", "x@", "x'", "x'@", "1.", "m", "mi", "ma", "min",
            "max", "min(", "max(", "min(1", "min(1,", "min(1,2", "(", "(1", "(1+", "((1)", "1+(2", "-(", "1+-",
            "min(1+", "max((1)", "max((1),", "min(1,min(2,3)", "max(1,2.", "((((((", "((((((x", "((((((x))))))+"};
        for (String text : early) {
            fault(text, text.length());
            Calls s = new Calls(TALLY);
            s.type(text);
            s.due("right(0)", NOT_POSSIBLE);
        }
        part("the first character that cannot stand at its place");
        Object[][] rows = {
            {"+1", 0}, {"*1", 0}, {"/1", 0}, {")", 0}, {",", 0}, {"'", 0}, {"@", 0}, {"1,", 1}, {"1)", 1},
            {"1(", 1}, {"x(", 1}, {"t(", 1}, {"(1)(", 3}, {"(1)1", 3}, {"(1)x", 3}, {"()", 1}, {"(,", 1},
            {"(1,", 2}, {"(1,2)", 2}, {"1+)", 2}, {"1+*2", 2}, {"1*+2", 2}, {"1++2", 2}, {"1//2", 2},
            {"-+1", 1}, {"-)", 1}, {"m(", 1}, {"mx", 1}, {"mn", 1}, {"mi(", 2}, {"mix", 2}, {"ma(", 2},
            {"man", 2}, {"min1", 3}, {"min)", 3}, {"minn(", 3}, {"maxx", 3}, {"min()", 4}, {"min(,", 4},
            {"min(1)", 5}, {"min(1,)", 6}, {"min(1,2,", 7}, {"min(1,2,3)", 7}, {"max(1,2))", 8},
            {"max(1,2)1", 8}, {"max(1,2)(", 8}, {"min(1,(2,3))", 8}, {"t0", 1}, {"tx", 1}, {"xt", 1},
            {"0x", 1}, {"0t", 1}, {"1m", 1}, {"xm", 1}, {"1.5(", 3}, {"1.5'", 3}, {"1'", 1}, {"x.", 1},
            {"x=1", 1}, {"!", 0}, {"~", 0}, {"1!", 1}, {"1~", 1}, {"x@0@", 3}, {"x@0(", 3}, {"x@0.", 3},
            {"x@0x", 3}, {"1+x@3+(", 4}, {"(((((((()", 6}};
        for (Object[] row : rows) {
            fault((String) row[0], (Integer) row[1]);
            fault(row[0] + "+", (Integer) row[1]);
            fault(row[0] + "x)", (Integer) row[1]);
        }
    }

    // ---- histories

    private static void emptyHistory() {
        part("the history is 0 without points");
        Calls s = new Calls(TALLY, "point(1, -5, 7)");
        for (int time : new int[] {-10000, -9999, -5, -1, 0}) {
            s.due("value(0, " + time + ")", 0);
            s.due("slope(0, " + time + ")", 0);
            s.due("value(1, " + time + ")", 7);
            s.due("slope(1, " + time + ")", 0);
        }
        s.due("clear(0)", 0);
        s.due("clear(1)", 1);
        s.due("clear(1)", 0);
        s.due("count(9)", 0);
        s.due("value(1, -5)", 0);
        s.due("value(1, 0)", 0);
        part("one point: ahead of it, at it, behind it");
        s = new Calls(TALLY, "point(2, -5000, -31)");
        for (int time : new int[] {-10000, -5001, -5000, -4999, 0}) {
            s.due("value(2, " + time + ")", -31);
            s.due("slope(2, " + time + ")", 0);
        }
    }

    private static void fullHistory() {
        part("a history of at most 6 points");
        Calls s = new Calls(TALLY);
        for (int v = 0; v <= 2; v++) {
            int[] times = {-40, 0, -20, -10000, -10, -30};
            for (int n = 0; n < 6; n++) {
                s.due("count(" + (8 + v) + ")", n);
                s.due("point(" + v + ", " + times[n] + ", " + (v * 100 - times[n]) + ")", n + 1);
            }
            s.due("point(" + v + ", -25, 1)", LIMIT);
            s.due("point(" + v + ", -9999, 1)", LIMIT);
            part("if it has one at this time, NOT_POSSIBLE is returned rather than LIMIT_REACHED");
            for (int time : times) {
                s.due("point(" + v + ", " + time + ", 1)", NOT_POSSIBLE);
            }
            part("INVALID_ARGUMENT rather than these");
            s.due("point(" + v + ", 1, 1)", INVALID);
            s.due("point(" + v + ", -40, 1000001)", INVALID);
            s.due("point(" + v + ", -10001, 1)", INVALID);
            part("all 6 points are used");
            s.due("count(" + (8 + v) + ")", 6);
            for (int time : new int[] {-10000, -9999, -41, -40, -39, -30, -25, -20, -15, -10, -9, -1, 0}) {
                s.due("value(" + v + ", " + time + ")", v * 100 - time);
            }
        }
        part("a full history can be cleared, and filled again");
        s.due("clear(1)", 6);
        s.due("count(8)", 6);
        s.due("count(9)", 0);
        s.due("count(10)", 6);
        s.due("value(1, -40)", 0);
        for (int n = 1; n <= 6; n++) {
            s.due("point(1, " + -n + ", 9)", n);
        }
        s.due("point(1, -7, 9)", LIMIT);
        s.due("undo()", 3);
        s.due("point(1, -7, 9)", 6);
        part("no two at the same time");
        s = new Calls(TALLY, "point(0, 0, 5)");
        s.due("point(0, 0, 5)", NOT_POSSIBLE);
        s.due("point(0, 0, 6)", NOT_POSSIBLE);
        s.due("point(0, -1, 6)", 2);
        s.due("point(1, 0, 6)", 1);
        s.due("point(0, -10000, 7)", 3);
        s.due("point(0, -10000, 7)", NOT_POSSIBLE);
        s.due("value(0, 0)", 5);
    }

    private static void noRightSides() {
        part("each variable has a right side, at first 0");
        Calls s = new Calls(TALLY, "point(0, 0, 5) point(1, 0, -6) delay(0, 10, 0) delay(1, 20, 0) delay(2, 30, 0)");
        s.due("count(14)", 0);
        s.due("count(5)", 1);
        s.all(TO_8000);
        s.due("value(0, 8000)", 5);
        s.due("value(1, 8000)", -6);
        s.due("value(2, 8000)", 0);
        for (int v = 0; v <= 2; v++) {
            s.due("slope(" + v + ", 8000)", 0);
            s.due("rightAt(" + v + ", 8000)", 0);
            s.due("step(79, " + (2 + v) + ")", 0);
        }
        s.due("step(79, 5)", 0);
        s.due("count(4)", 80);
    }

    // ---- kept states and slots

    private static void noKeptStates() {
        part("undo: NOT_POSSIBLE if there is none");
        Calls s = new Calls(TALLY);
        s.due("count(7)", 0);
        s.due("undo()", NOT_POSSIBLE);
        s.due("solve(5)", 5);
        s.due("undo()", 0);
        s.due("undo()", NOT_POSSIBLE);
        s.due("count(3)", 0);
        s.due("solve(6)", 6);
        s.due("count(7)", 1);
        s.due("undo()", 0);
        s.due("count(3)", 0);
    }

    private static void fullKeptStates() {
        part("at most 4 states are kept, and when one more is recorded, the oldest one is dropped");
        for (int changes = 0; changes <= 13; changes++) {
            Calls s = new Calls(TALLY);
            for (int n = 1; n <= changes; n++) {
                s.due("solve(10)", n * 10);
                s.due("count(7)", Math.min(4, n));
            }
            int kept = Math.min(4, changes);
            for (int n = 1; n <= kept; n++) {
                s.due("undo()", kept - n);
                s.due("count(3)", (changes - n) * 10);
                s.due("count(4)", changes - n);
            }
            s.due("undo()", NOT_POSSIBLE);
            s.due("count(3)", (changes - kept) * 10);
        }
        part("what is recorded after an undo takes the place of what was undone");
        Calls s = new Calls(TALLY);
        for (int n = 1; n <= 6; n++) {
            s.due("set(0, " + (20 + n) + ")", n == 1 ? 100 : 19 + n);
        }
        s.due("undo()", 3);
        s.due("undo()", 2);
        s.due("count(0)", 24);
        s.due("set(0, 300)", 24);
        s.due("set(0, 301)", 300);
        s.due("set(0, 302)", 301);
        s.due("count(7)", 4);
        int[] settings = {301, 300, 24, 23};
        for (int n = 0; n < 4; n++) {
            s.due("undo()", 3 - n);
            s.due("count(0)", settings[n]);
        }
        s.due("undo()", NOT_POSSIBLE);
        part("restore drops the oldest one too");
        s = new Calls(TALLY, "solve(1) save(0) solve(1) solve(1) solve(1)");
        s.due("count(7)", 4);
        s.due("restore(0)", 1);
        s.due("count(7)", 4);
        int[] times = {4, 3, 2, 1};
        for (int n = 0; n < 4; n++) {
            s.due("undo()", 3 - n);
            s.due("count(3)", times[n]);
        }
        s.due("undo()", NOT_POSSIBLE);
    }

    private static void emptySlots() {
        part("restore: NOT_POSSIBLE if nothing was saved in the slot");
        Calls s = new Calls(TALLY);
        s.due("restore(0)", NOT_POSSIBLE);
        s.due("restore(1)", NOT_POSSIBLE);
        s.due("count(7)", 0);
        s.due("save(0)", 0);
        s.due("restore(1)", NOT_POSSIBLE);
        s.due("restore(0)", 0);
        s.due("count(7)", 1);
        s = new Calls(TALLY, "save(1)");
        s.due("restore(0)", NOT_POSSIBLE);
        s.due("restore(1)", 0);
        part("undo does not empty a slot");
        s = new Calls(TALLY, "solve(5) save(0) undo()");
        s.due("restore(0)", 5);
        s.due("undo()", 0);
        s.due("restore(0)", 5);
    }

    private static void fullSlots() {
        part("save: in place of the state that was saved there");
        Calls s = new Calls(TALLY, "solve(5) save(0) solve(5) save(1) solve(5)");
        s.due("save(0)", 15);
        s.due("restore(1)", 10);
        s.due("restore(0)", 15);
        s.due("restore(1)", 10);
        s.due("save(0)", 10);
        s.due("solve(1)", 11);
        s.due("restore(0)", 10);
        part("restore: the slot keeps its state");
        for (int n = 0; n < 6; n++) {
            s.due("set(0, " + (20 + n) + ")", 100);
            s.due("solve(7)", 7);
            s.due("restore(1)", 10);
            s.due("count(0)", 100);
            s.due("count(7)", 4);
        }
        part("a state that was saved when 4 states were kept");
        s.due("save(1)", 10);
        s.all("undo() undo() undo() undo()");
        s.due("undo()", NOT_POSSIBLE);
        s.due("restore(1)", 10);
        s.due("count(7)", 1);
        part("a full path is saved, and restored");
        s = new Calls(TALLY, "type(49) right(0) set(0, 20)" + TO_8000);
        s.due("save(1)", 8000);
        s.due("clear(0)", 0);
        s.due("solve(7)", 7);
        s.due("restore(1)", 8000);
        s.due("count(4)", 400);
        s.due("value(0, 8000)", 8000);
        s.due("value(0, 7999)", 7999);
        s.due("step(399, 0)", 7980);
        s.due("undo()", 4 - 1);
        s.due("count(3)", 7);
    }

    // ---- break points and steps

    private static void onlyTheTimeZero() {
        part("the time 0 is a break point of the order 0, and has no delay");
        for (String setup : new String[] {"", "set(2, 0)", "delay(0, 10, 0)", "set(2, 3) delay(2, 10, 0)"}) {
            Calls s = new Calls(TALLY, setup);
            s.due("count(5)", 1);
            s.due("breakAt(0, 0)", 0);
            s.due("breakAt(0, 1)", 0);
            s.due("breakAt(0, 2)", NOT_FOUND);
            for (int what = 0; what <= 2; what++) {
                s.due("breakAt(1, " + what + ")", NOT_FOUND);
                s.due("breakAt(2147483647, " + what + ")", NOT_FOUND);
            }
            s.due("breakAt(1, 3)", INVALID);
        }
    }

    private static void fullBreakPoints() {
        part("the most break points: 1, 3, 9 and 27");
        Calls s = new Calls(TALLY, "delay(0, 1000, -20) delay(1, 110, 300) delay(2, 12, 500)");
        s.right(0, "x@0+x@1+x@2");
        int[] most = {1, 4, 13, 40};
        for (int order = 0; order <= 3; order++) {
            s.good("set(2, " + order + ")");
            s.due("count(5)", most[order]);
            s.good("breakAt(" + (most[order] - 1) + ", 0)");
            for (int what = 0; what <= 2; what++) {
                s.due("breakAt(" + most[order] + ", " + what + ")", NOT_FOUND);
            }
            int last = -1;
            for (int n = 0; n < most[order]; n++) {
                int time = s.ask("breakAt(" + n + ", 0)");
                TALLY.due("break points are told by ascending times", time > last ? 1 : 0, 1);
                last = time;
            }
        }
        s.due("set(0, 500)", 100);
        part("all of them are hit by the steps");
        s.all(TO_8000);
        int steps = s.ask("count(4)");
        int at = 0;
        for (int n = 0; n < steps && at < 39; n++) {
            int end = s.ask("step(" + n + ", 0)") + s.ask("step(" + n + ", 1)");
            int next = s.ask("breakAt(" + (at + 1) + ", 0)");
            TALLY.due("no step goes over a break point", end <= next ? 1 : 0, 1);
            at += end == next ? 1 : 0;
        }
        TALLY.due("break points that a step hit", at, 39);
    }

    private static void breakPointsUpTo8000() {
        part("a break point at most 8000");
        Calls s = new Calls(TALLY, "set(2, 3) delay(0, 4000, 0) type(120) type(64) type(48) right(0)");
        s.due("count(5)", 3);
        s.due("breakAt(2, 0)", 8000);
        s.due("breakAt(2, 1)", 2);
        s.due("breakAt(2, 2)", 0);
        s.due("delay(0, 4001, 0)", 4000);
        s.due("count(5)", 2);
        s.due("breakAt(1, 0)", 4001);
        // The lag at 7999 is 5000 + 2999: what is left of 2999.625 is cut off.
        s.due("delay(0, 5000, 375)", 4001);
        s.due("count(5)", 2);
        s.due("breakAt(1, 0)", 7999);
        // The lag at 8000 is 5000 + 3008: it is never reached.
        s.due("delay(0, 5000, 376)", 5000);
        s.due("count(5)", 1);
        s.due("delay(0, 2000, 0)", 5000);
        s.due("count(5)", 4);
        s.due("breakAt(3, 0)", 6000);
        s.due("delay(0, 2667, 0)", 2000);
        s.due("count(5)", 3);
        s.due("delay(0, 2666, 0)", 2667);
        s.due("count(5)", 4);
        s.due("breakAt(3, 0)", 7998);
        part("a break point at 8000 ends the last step, as 8000 itself does");
        s = new Calls(TALLY, "set(0, 300) delay(0, 4000, 0) type(120) type(64) type(48) right(0)" + TO_8000);
        s.due("count(3)", 8000);
        int steps = s.ask("count(4)");
        s.due("step(" + (steps - 1) + ", 1)", 200);
        s.due("step(" + (steps - 1) + ", 0)", 7800);
    }

    private static void noSteps() {
        part("at first the problem is solved up to the time 0");
        Calls s = new Calls(TALLY, "point(0, 0, 9) type(51) right(0)");
        s.due("count(3)", 0);
        s.due("count(4)", 0);
        for (int what = 0; what <= 5; what++) {
            s.due("step(0, " + what + ")", NOT_FOUND);
        }
        s.due("value(0, 0)", 9);
        s.due("value(0, 1)", NOT_FOUND);
        s.due("slope(0, 0)", 0);
        s.due("slope(0, 1)", NOT_FOUND);
        s.due("rightAt(0, 0)", 3000);
        s.due("rightAt(0, 1)", NOT_FOUND);
        s.due("crossing(0, 9, 1)", NOT_FOUND);
        s.due("greatest(0, 0, 0, 0)", 9);
        s.due("greatest(0, 0, 0, 1)", 0);
        s.due("greatest(0, 0, 1, 0)", NOT_FOUND);
        s.due("greatest(0, 1, 1, 0)", NOT_FOUND);
        s.due("differs(20)", 0);
        s.due("differs(500)", 0);
        s.due("save(0)", 0);
        s.due("restore(0)", 0);
    }

    private static void lastStep() {
        part("step: NOT_FOUND if there are not so many");
        Calls s = new Calls(TALLY, "type(51) right(0) solve(250)");
        s.due("count(4)", 3);
        s.due("step(2, 0)", 200);
        s.due("step(2, 1)", 50);
        s.due("step(3, 0)", NOT_FOUND);
        s.due("step(3, 5)", NOT_FOUND);
        s.due("step(2147483647, 0)", NOT_FOUND);
        s.due("step(2147483647, 6)", INVALID);
        s.due("solve(1)", 251);
        s.due("step(3, 0)", 250);
        s.due("step(3, 1)", 1);
        s.due("step(4, 0)", NOT_FOUND);
        s.due("undo()", 2);
        s.due("step(3, 0)", NOT_FOUND);
        s.due("step(2, 0)", 200);
        s.due("set(0, 100)", 100);
        s.due("step(0, 0)", NOT_FOUND);
        part("NOT_FOUND if the problem is not solved up to this time");
        s = new Calls(TALLY, "type(51) right(0) solve(250)");
        s.due("value(0, 250)", 750);
        s.due("value(0, 251)", NOT_FOUND);
        s.due("slope(0, 250)", 3000);
        s.due("slope(0, 251)", NOT_FOUND);
        s.due("rightAt(0, 250)", 3000);
        s.due("rightAt(0, 251)", NOT_FOUND);
        s.due("crossing(0, 750, 1)", 250);
        s.due("crossing(0, 750, 250)", 250);
        s.due("crossing(0, 750, 251)", NOT_FOUND);
        s.due("crossing(0, 751, 1)", NOT_FOUND);
        s.due("greatest(0, 0, 250, 1)", 250);
        s.due("greatest(0, 250, 250, 0)", 750);
        s.due("greatest(0, 0, 251, 0)", NOT_FOUND);
        s.due("greatest(0, 251, 251, 0)", NOT_FOUND);
    }

    private static void solvedTo8000() {
        part("solve: LIMIT_REACHED if this would be greater than 8000");
        Calls s = new Calls(TALLY, "type(49) right(0)");
        s.due("solve(2000)", 2000);
        s.due("solve(2000)", 4000);
        s.due("solve(2000)", 6000);
        s.due("solve(1999)", 7999);
        s.due("solve(2)", LIMIT);
        s.due("solve(2000)", LIMIT);
        s.due("count(3)", 7999);
        s.due("solve(1)", 8000);
        s.due("solve(1)", LIMIT);
        s.due("solve(2000)", LIMIT);
        s.due("solve(0)", INVALID);
        s.due("solve(2001)", INVALID);
        s.due("count(7)", 4);
        s.due("value(0, 8000)", 8000);
        s.due("slope(0, 8000)", 1000);
        s.due("rightAt(0, 8000)", 1000);
        s.due("crossing(0, 8000, 8000)", 8000);
        s.due("greatest(0, 8000, 8000, 1)", 8000);
        s.due("greatest(0, 0, 8000, 0)", 8000);
        s.due("differs(499)", 0);
        s.due("save(0)", 8000);
        part("it can be solved again after an undo");
        s.due("undo()", 3);
        s.due("solve(1)", 8000);
        s.due("undo()", 3);
        s.due("undo()", 2);
        s.due("solve(2000)", 8000);
        s.due("restore(0)", 8000);
        s.due("solve(1)", LIMIT);
        part("begun anew, it can be solved up to 8000 again");
        s.due("set(0, 100)", 100);
        s.due("solve(2000)", 2000);
    }

    private static void lastCall() {
        part("an object is used for at most 512 calls");
        Calls s = new Calls(TALLY);
        s.right(0, "x@0+1");
        s.all("delay(0, 7, 3) set(0, 20) set(2, 3)");
        while (s.made() < 505) {
            s.good("solve(" + (1 + s.made() % 15) + ")");
        }
        int end = s.ask("count(3)");
        s.due("solve(60)", end + 60);
        s.due("differs(20)", s.ask("differs(20)"));
        s.due("undo()", 3);
        s.due("count(3)", end);
        s.due("solve(1)", end + 1);
        TALLY.due("calls", s.made(), 512);
    }

    /** What is answered then is free, but nothing may be thrown, and each call must end. */
    private static void behindTheLastCall() {
        part("behind the 512th call");
        LagSolver s = new LagSolver();
        s.type('x');
        s.type('@');
        s.type('0');
        s.right(0);
        s.delay(0, 1, 0);
        s.set(2, 3);
        for (int n = 0; n < 3000; n++) {
            s.solve(1 + n / 1500);
            s.type(33 + n % 94);
        }
        for (int n = -3; n < 1000; n++) {
            s.save(n & 1);
            s.solve(2000);
            s.differs(20 + n / 3);
            s.value(0, 8 * n);
            s.slope(0, 8 * n);
            s.rightAt(0, 8 * n);
            s.step(n, n % 6);
            s.crossing(0, n, 8 * n);
            s.greatest(0, n, 8 * n, 1);
            s.breakAt(n, n % 3);
            s.fault();
            s.point(n % 3, -n, n);
            s.restore(n & 1);
            s.undo();
        }
        TALLY.due("wipe", s.wipe(), 80);
    }
}
