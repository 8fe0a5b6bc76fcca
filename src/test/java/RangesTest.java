/**
 * The range of each argument, promise by promise: the last number that is allowed and the first one
 * that is not, on both sides.
 */
public final class RangesTest {
    private static final int INVALID = LagSolver.INVALID_ARGUMENT;
    private static final int NOT_FOUND = LagSolver.NOT_FOUND;
    private static final Tally TALLY = new Tally();

    /** x' = -x@1 and z' = z'@2, with points of each variable and delays that change. */
    private static final String PROBLEM = "delay(0, 3, 1) delay(1, 250, 0) delay(2, 40, -5)"
            + " point(0, 0, 1000) point(1, -9, 20) point(2, -70, 7) point(2, 0, 77)"
            + " type(45) type(120) type(64) type(49) right(0)"
            + " type(122) type(39) type(64) type(50) right(2) ";
    private static final String TO_8000 = "solve(2000) solve(2000) solve(2000) solve(2000) ";

    public static void main(String[] args) {
        ofTheText();
        ofTheProblem();
        ofSettings();
        ofBreakPoints();
        ofSolving();
        ofTimes();
        ofSteps();
        ofSearches();
        ofCounts();
        ofSlots();
        ofWhatIsAllowedTogether();
        TALLY.end("RangesTest");
    }

    /**
     * The call has a "#" for the number whose range is from least to most; what it answers for these
     * two is told, and all beyond them is refused.
     */
    private static void range(String setup, String call, int least, int most, int atLeast, int atMost) {
        new Calls(TALLY, setup).due(call.replace("#", "" + least), atLeast);
        new Calls(TALLY, setup).due(call.replace("#", "" + most), atMost);
        long[] beyond = {least - 1L, most + 1L, least - 1000L, most + 1000L, Integer.MIN_VALUE, Integer.MAX_VALUE,
            // These would be allowed if only their last 8 or 16 bits were looked at.
            least + 256L, most - 256L, least + 65536L, most - 65536L};
        Calls s = new Calls(TALLY, setup);
        for (long number : beyond) {
            boolean isBeyond = number < least || number > most;
            if (isBeyond && number >= Integer.MIN_VALUE && number <= Integer.MAX_VALUE) {
                s.due(call.replace("#", "" + number), INVALID);
            }
        }
    }

    private static void ofTheText() {
        TALLY.part("2: character: 33 to 126");
        range("", "type(#)", 33, 126, 1, 1);
        range("type(120)", "type(#)", 33, 126, 2, 2);
        TALLY.part("5: variable");
        range("type(122) type(64) type(50)", "right(#)", 0, 2, 4, 4);
    }

    private static void ofTheProblem() {
        TALLY.part("6: delay 0 to 2, constant 0 to 5000, part -900 to 900");
        range("delay(0, 5, 5) delay(2, 7, 7)", "delay(#, 1, 1)", 0, 2, 5, 7);
        range("delay(1, 6, 6)", "delay(1, #, 1)", 0, 5000, 6, 6);
        range("delay(1, 6, 6)", "delay(1, 1, #)", -900, 900, 6, 6);
        // What is allowed at the ends is taken as it is.
        Calls s = new Calls(TALLY, "delay(0, 0, -900) delay(1, 5000, 900) delay(2, 5000, -900)");
        s.due("count(11)", -900);
        s.due("count(12)", 900);
        s.due("lag(0, 0)", 0);
        s.due("lag(1, 0)", 5000);
        s.due("lag(1, 8000)", 12200);
        s.due("lag(2, 5555)", 1);
        s.due("lag(2, 5556)", 0);
        s.due("delay(0, 1, 1)", 0);
        s.due("delay(1, 1, 1)", 5000);
        TALLY.part("7: time -10000 to 0, value -1000000 to 1000000");
        range("point(2, -9, 9)", "point(#, -5, 9)", 0, 2, 1, 2);
        range("point(1, -9, 9)", "point(1, #, 9)", -10000, 0, 2, 2);
        range("point(1, -9, 9)", "point(1, -5, #)", -1000000, 1000000, 2, 2);
        s = new Calls(TALLY, "point(0, -10000, 1000000) point(0, 0, -1000000)");
        s.due("value(0, -10000)", 1000000);
        s.due("value(0, -5000)", 0);
        s.due("value(0, 0)", -1000000);
        TALLY.part("8: variable");
        range("point(0, 0, 1) point(2, 0, 1) point(2, -1, 1)", "clear(#)", 0, 2, 1, 2);
    }

    private static void ofSettings() {
        TALLY.part("9: what 0 to 2, a value in its range; first values 100, 1, 2");
        range("", "set(0, #)", 20, 500, 100, 100);
        range("", "set(1, #)", 0, 4, 1, 1);
        range("", "set(2, #)", 0, 3, 2, 2);
        Calls s = new Calls(TALLY);
        for (int what : new int[] {-1, 3, 4, 256, -256, Integer.MIN_VALUE, Integer.MAX_VALUE}) {
            for (int value : new int[] {0, 1, 2, 3, 4, 20, 100, 500}) {
                s.due("set(" + what + ", " + value + ")", INVALID);
            }
        }
        // A range that is another setting's own is no help.
        s.due("set(1, 20)", INVALID);
        s.due("set(2, 4)", INVALID);
        s.due("set(0, 4)", INVALID);
        s.due("count(0)", 100);
        s.due("count(1)", 1);
        s.due("count(2)", 2);
        s.due("count(7)", 0);
        s.due("set(0, 20)", 100);
        s.due("set(0, 500)", 20);
        s.due("count(0)", 500);
        s.due("set(1, 0)", 1);
        s.due("set(1, 4)", 0);
        s.due("count(1)", 4);
        s.due("set(2, 0)", 2);
        s.due("set(2, 3)", 0);
        s.due("count(2)", 3);
    }

    private static void ofBreakPoints() {
        TALLY.part("10: delay 0 to 2, time 0 to 8000");
        range(PROBLEM, "lag(#, 1000)", 0, 2, 4, 35);
        range(PROBLEM, "lag(0, #)", 0, 8000, 3, 11);
        TALLY.part("11: index 0 and more, what 0 to 2");
        range(PROBLEM, "breakAt(#, 0)", 0, Integer.MAX_VALUE, 0, NOT_FOUND);
        range(PROBLEM, "breakAt(0, #)", 0, 2, 0, NOT_FOUND);
        range(PROBLEM, "breakAt(1, #)", 0, 2, 40, 2);
        range(PROBLEM, "breakAt(99, #)", 0, 2, NOT_FOUND, NOT_FOUND);
    }

    private static void ofSolving() {
        TALLY.part("12: ticks 1 to 2000");
        range(PROBLEM, "solve(#)", 1, 2000, 1, 2000);
        range("solve(2000) solve(2000)", "solve(#)", 1, 2000, 4001, 6000);
    }

    private static void ofTimes() {
        TALLY.part("13, 14: variable 0 to 2, time -10000 to 8000");
        range("point(0, 0, 5) point(2, 0, 6)", "value(#, 0)", 0, 2, 5, 6);
        range("point(0, 0, 5) point(2, 0, 6)", "value(#, 1)", 0, 2, NOT_FOUND, NOT_FOUND);
        range("point(0, -10000, 5) point(0, -9999, 6)", "value(0, #)", -10000, 8000, 5, NOT_FOUND);
        range("point(0, -10000, 5) point(0, 0, 6)" + TO_8000, "value(0, #)", -10000, 8000, 5, 6);
        range("point(0, -1, 5) point(2, -1, 6) point(0, 0, 6) point(2, 0, 8)", "slope(#, -1)", 0, 2, 1000, 2000);
        range("point(0, -10000, 5) point(0, -9999, 6)", "slope(0, #)", -10000, 8000, 1000, NOT_FOUND);
        range("point(0, -10000, 5) point(0, -9999, 6) type(51) right(0)" + TO_8000, "slope(0, #)", -10000, 8000,
                1000, 3000);
        TALLY.part("15: variable 0 to 2, time 0 to 8000");
        range("type(51) right(0) type(52) right(2)", "rightAt(#, 0)", 0, 2, 3000, 4000);
        range("type(51) right(0)", "rightAt(0, #)", 0, 8000, 3000, NOT_FOUND);
        range("type(116) right(0)" + TO_8000, "rightAt(0, #)", 0, 8000, 0, 8000);
    }

    private static void ofSteps() {
        TALLY.part("16: step 0 and more, what 0 to 5");
        range("solve(150)", "step(#, 1)", 0, Integer.MAX_VALUE, 100, NOT_FOUND);
        range("type(51) right(0) solve(150)", "step(0, #)", 0, 5, 0, 0);
        range("type(51) right(0) solve(150)", "step(1, #)", 0, 5, 100, 0);
        range("", "step(0, #)", 0, 5, NOT_FOUND, NOT_FOUND);
        TALLY.part("16: what 2 to 4 are the variables 0 to 2");
        Calls s = new Calls(TALLY, "type(55) right(0) type(56) right(1) type(57) right(2) solve(150)");
        s.due("step(1, 2)", 7000);
        s.due("step(1, 3)", 8000);
        s.due("step(1, 4)", 9000);
        s.due("step(1, 5)", 0);
        s.due("step(1, 1)", 50);
    }

    private static void ofSearches() {
        String risen = "point(0, 0, 5) point(2, 0, 5) type(49) right(0) type(50) right(2) solve(10) ";
        TALLY.part("17: variable 0 to 2, level -1000000000 to 1000000000, from 1 to 8000");
        range(risen, "crossing(#, 9, 1)", 0, 2, 4, 2);
        range(risen, "crossing(0, #, 1)", -1000000000, 1000000000, NOT_FOUND, NOT_FOUND);
        range(risen, "crossing(0, 6, #)", 1, 8000, 1, NOT_FOUND);
        range("type(49) right(0)" + TO_8000, "crossing(0, 8000, #)", 1, 8000, 8000, 8000);
        // A value that comes to each end of the range of levels.
        Calls s = new Calls(TALLY, "set(0, 500)");
        s.right(0, "9999*9999");
        s.right(1, "-9999*9999*(1-t)");
        s.all(TO_8000);
        s.due("crossing(0, 1000000000, 1)", 1000);
        s.due("crossing(0, 999999999, 1)", 1000);
        s.due("crossing(1, -1000000000, 1)", NOT_FOUND);
        s.due("crossing(1, 1000000000, 1)", s.ask("greatest(1, 0, 8000, 1)"));
        TALLY.part("18: variable 0 to 2, from 0 to 8000, to from to 8000, what 0 to 1");
        range(risen, "greatest(#, 0, 10, 0)", 0, 2, 15, 25);
        range(risen, "greatest(0, #, 8000, 0)", 0, 8000, NOT_FOUND, NOT_FOUND);
        range("type(49) right(0)" + TO_8000, "greatest(0, #, 8000, 1)", 0, 8000, 8000, 8000);
        range(risen, "greatest(0, 0, #, 0)", 0, 8000, 5, NOT_FOUND);
        range(risen, "greatest(0, 7, #, 0)", 7, 8000, 12, NOT_FOUND);
        range("type(49) right(0)" + TO_8000, "greatest(0, 0, #, 0)", 0, 8000, 0, 8000);
        range("type(49) right(0)" + TO_8000, "greatest(0, 8000, #, 0)", 8000, 8000, 8000, 8000);
        range(risen, "greatest(0, 0, 10, #)", 0, 1, 15, 10);
        TALLY.part("19: step 20 to 500");
        range(risen, "differs(#)", 20, 500, 0, 0);
        range("", "differs(#)", 20, 500, 0, 0);
        // x' = t in steps of 20 and of 400: (0 + 20 + 40 ..) as t * t / 2000, but each rounded.
        Calls t = new Calls(TALLY, "type(116) right(0) solve(400)");
        t.due("value(0, 400)", 80);
        t.due("differs(20)", 80 - bySteps(20));
        t.due("differs(500)", 80 - bySteps(400));
    }

    /** x at 400 of x' = t in steps of one length. */
    private static int bySteps(int length) {
        int x = 0;
        for (int t = 0; t < 400; t += length) {
            x += (t + t + length) * length / 2000;
        }
        return x;
    }

    private static void ofCounts() {
        TALLY.part("20: what 0 to 14");
        range(PROBLEM, "count(#)", 0, 14, 100, 6);
        range("", "count(#)", 0, 14, 100, 0);
    }

    private static void ofSlots() {
        TALLY.part("22, 23: slot 0 or 1");
        range("solve(10)", "save(#)", 0, 1, 10, 10);
        range("solve(10) save(0) solve(20) save(1)", "restore(#)", 0, 1, 10, 30);
        range("", "restore(#)", 0, 1, LagSolver.NOT_POSSIBLE, LagSolver.NOT_POSSIBLE);
    }

    private static void ofWhatIsAllowedTogether() {
        TALLY.part("all arguments at their ends");
        String[] good = {"delay(2, 5000, 900)", "delay(2, 5000, -900)", "delay(2, 0, 900)", "delay(2, 0, -900)"};
        for (String call : good) {
            new Calls(TALLY).due(call, 0);
        }
        for (int time : new int[] {-10000, 0}) {
            for (int value : new int[] {-1000000, 1000000}) {
                Calls s = new Calls(TALLY);
                s.due("point(2, " + time + ", " + value + ")", 1);
                s.due("value(2, " + time + ")", value);
                s.due("value(2, -10000)", value);
                s.due("value(2, 0)", value);
            }
        }
        TALLY.part("18: a time \"to\" that is less than \"from\"");
        Calls s = new Calls(TALLY, TO_8000);
        s.due("greatest(0, 8000, 7999, 0)", INVALID);
        s.due("greatest(0, 1, 0, 0)", INVALID);
        s.due("greatest(0, 8000, 0, 1)", INVALID);
        s.due("greatest(0, 8001, 8001, 0)", INVALID);
        s.due("greatest(0, 8001, 8000, 0)", INVALID);
        s.due("greatest(0, -1, -1, 0)", INVALID);
        s.due("greatest(0, 1, 1, 0)", 0);
    }
}
