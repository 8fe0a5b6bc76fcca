/** The boundary cases of the document's terms: histories, delays, break points, steps, changes. */
public final class TermsTest {
    private static final int INVALID = LagSolver.INVALID_ARGUMENT;
    private static final int NOT_POSSIBLE = LagSolver.NOT_POSSIBLE;
    private static final int LIMIT = LagSolver.LIMIT_REACHED;
    private static final int NOT_FOUND = LagSolver.NOT_FOUND;
    private static final Tally TALLY = new Tally();

    public static void main(String[] args) {
        pointsOfAHistory();
        slopesOfAHistory();
        theTimeZero();
        delays();
        delaysThatAreUsed();
        orders();
        reachedBreakPoints();
        lagsOfZeroAtBreakPoints();
        severalWays();
        lengthsOfSteps();
        pastOfAStep();
        pastAtTheBeginOfAStep();
        pastBehindTheBegin();
        rounds();
        roundsByLags();
        roundsByRightSides();
        betweenTheEnds();
        slopesAtTheEnds();
        sidesAtATime();
        crossings();
        greatestValues();
        otherSteps();
        whatBeginsAnew();
        whatIsNoChange();
        whatAStateIs();
        errorsTogether();
        TALLY.end("TermsTest");
    }

    private static void part(String sentence) {
        TALLY.part(sentence);
    }

    // ---- histories and delays

    private static void pointsOfAHistory() {
        part("ahead of the first point, between two of them, behind the last one");
        Calls s = new Calls(TALLY, "point(0, -10, 500) point(0, -30, 100) point(0, -20, 900)");
        int[][] rows = {{-10000, 100}, {-31, 100}, {-30, 100}, {-29, 180}, {-21, 820}, {-20, 900}, {-19, 860},
            {-11, 540}, {-10, 500}, {-9, 500}, {-1, 500}, {0, 500}};
        for (int[] row : rows) {
            s.due("value(0, " + row[0] + ")", row[1]);
        }
        part("points at neighbouring ticks");
        s = new Calls(TALLY, "point(1, -2, 5) point(1, -1, -7) point(1, 0, 11)");
        s.due("value(1, -3)", 5);
        s.due("value(1, -2)", 5);
        s.due("value(1, -1)", -7);
        s.due("value(1, 0)", 11);
        part("the first and the last time of a history");
        s = new Calls(TALLY, "point(2, 0, 10000) point(2, -10000, -10000)");
        s.due("value(2, -10000)", -10000);
        s.due("value(2, -9999)", -9998);
        s.due("value(2, -1)", 9998);
        s.due("value(2, 0)", 10000);
        part("great differences between points are exact");
        s = new Calls(TALLY, "point(2, 0, 1000000) point(2, -10000, -1000000)");
        s.due("value(2, -1)", 999800);
        s.due("value(2, -9999)", -999800);
        s.due("slope(2, -1)", 200000);
    }

    private static void slopesOfAHistory() {
        part("the slope if t is at least a and less than b, 0 ahead of the first point, and from the last one on");
        Calls s = new Calls(TALLY, "point(0, -10, 500) point(0, -30, 100) point(0, -20, 900)");
        int[][] rows = {{-10000, 0}, {-31, 0}, {-30, 80000}, {-21, 80000}, {-20, -40000}, {-11, -40000}, {-10, 0},
            {-9, 0}, {0, 0}};
        for (int[] row : rows) {
            s.due("slope(0, " + row[0] + ")", row[1]);
        }
        s = new Calls(TALLY, "point(1, -2, 5) point(1, -1, -7) point(1, 0, 11)");
        s.due("slope(1, -3)", 0);
        s.due("slope(1, -2)", -12000);
        s.due("slope(1, -1)", 18000);
        s.due("slope(1, 0)", 0);
        part("the slope is that of the history up to the time 0, also when the problem is solved further");
        s.right(1, "9");
        s.due("solve(10)", 10);
        s.due("slope(1, -1)", 18000);
        s.due("slope(1, 0)", 0);
        s.due("slope(1, 1)", 9000);
        s.due("value(1, -1)", -7);
        s.due("value(1, 0)", 11);
    }

    private static void theTimeZero() {
        part("the values at the time 0 are those of the histories");
        Calls s = new Calls(TALLY, "point(0, -7, 70) point(1, -7, 70) point(1, 0, 71) point(2, -10000, 3)");
        s.due("value(0, 0)", 70);
        s.due("value(1, 0)", 71);
        s.due("value(2, 0)", 3);
        s.due("solve(30)", 30);
        s.due("value(0, 30)", 70);
        s.due("value(1, 30)", 71);
        s.due("value(2, 30)", 3);
        part("a point that is added ahead of the last one leaves them");
        s.due("point(0, -8, 900)", 2);
        s.due("value(0, 0)", 70);
        s.due("point(0, -6, 60)", 3);
        s.due("value(0, 0)", 60);
        s.due("greatest(0, 0, 0, 0)", 60);
        s.due("clear(0)", 3);
        s.due("value(0, 0)", 0);
        s.due("greatest(0, 0, 0, 0)", 0);
    }

    private static void delays() {
        part("the lag is c + s * t / 1000, 0 at least");
        Calls s = new Calls(TALLY, "delay(0, 100, -900) delay(1, 0, 900) delay(2, 0, -900)");
        s.due("lag(0, 110)", 1);
        s.due("lag(0, 112)", 0);
        s.due("lag(0, 113)", 0);
        s.due("lag(0, 8000)", 0);
        s.due("lag(1, 0)", 0);
        s.due("lag(1, 1)", 0);
        s.due("lag(1, 2)", 1);
        s.due("lag(1, 8000)", 7200);
        s.due("lag(2, 0)", 0);
        s.due("lag(2, 8000)", 0);
        part("both parts are 0 at first");
        s = new Calls(TALLY);
        for (int d = 0; d <= 2; d++) {
            s.due("lag(" + d + ", 8000)", 0);
            s.due("count(" + (11 + d) + ")", 0);
            s.due("delay(" + d + ", 0, 0)", 0);
        }
        part("the past reaches back to before the first tick of 8000 less the greatest lag");
        s = new Calls(TALLY, "delay(0, 5000, 900) set(2, 0) set(0, 500) point(0, -4200, 7) point(0, -4199, 9)"
                + " point(0, -5000, 5) point(0, -4999, 1)");
        s.right(1, "x@0");
        s.due("rightAt(1, 0)", 5);
        s.all("solve(2000) solve(2000) solve(2000) solve(2000)");
        s.due("rightAt(1, 8000)", 7);
        // The lag is 5000 at 1, so the past is -4999 then; 5001 at 2, 5009 at 10.
        s.due("rightAt(1, 1)", 1);
        s.due("rightAt(1, 2)", 1);
        s.due("rightAt(1, 10)", 1);
    }

    private static void delaysThatAreUsed() {
        part("each delay that any right side uses");
        Calls s = new Calls(TALLY, "delay(0, 10, 0) delay(1, 11, 0) delay(2, 12, 0) set(2, 1)");
        for (int v = 0; v <= 2; v++) {
            for (int d = 0; d <= 2; d++) {
                for (String name : new String[] {"x@", "y@", "z@", "x'@", "y'@", "z'@"}) {
                    TALLY.due(name + d, s.right(v, name + d), 1 << d);
                    s.due("count(14)", 1 << d);
                    s.due("count(5)", 2);
                    s.due("breakAt(1, 0)", 10 + d);
                    s.due("breakAt(1, 2)", d);
                }
            }
            TALLY.due("none", s.right(v, "x+y+z+t+1"), 0);
            s.due("count(14)", 0);
            s.due("count(5)", 1);
            s = new Calls(TALLY, "delay(0, 10, 0) delay(1, 11, 0) delay(2, 12, 0) set(2, 1)");
        }
        part("also if it is multiplied by 0, or in a branch that min does not take");
        TALLY.due("0*", s.right(0, "0*x@1"), 2);
        s.due("count(5)", 2);
        TALLY.due("min", s.right(0, "min(1,max(2,y'@2))"), 4);
        s.due("breakAt(1, 0)", 12);
        part("the delays of the text, not those of all right sides, are what right() returns");
        TALLY.due("y", s.right(1, "z@0+z@0"), 1);
        TALLY.due("z", s.right(2, "t"), 0);
        s.due("count(14)", 5);
        s.due("count(5)", 3);
    }

    // ---- break points

    private static void orders() {
        part("a break point whose order is less than the setting ORDER makes further ones");
        Calls s = new Calls(TALLY, "delay(1, 50, 0) type(120) type(64) type(49) right(2)");
        for (int order = 0; order <= 3; order++) {
            s.good("set(2, " + order + ")");
            s.due("count(5)", order + 1);
            for (int n = 0; n <= order; n++) {
                s.due("breakAt(" + n + ", 0)", 50 * n);
                s.due("breakAt(" + n + ", 1)", n);
                s.due("breakAt(" + n + ", 2)", n == 0 ? NOT_FOUND : 1);
            }
            s.due("breakAt(" + (order + 1) + ", 0)", NOT_FOUND);
        }
        part("what changes the break points");
        s.due("delay(1, 60, 0)", 50);
        s.due("breakAt(3, 0)", 180);
        s.due("delay(0, 7, 0)", 0);
        s.due("count(5)", 4);
        s.due("undo()", 3);
        s.due("undo()", 2);
        s.due("breakAt(3, 0)", 150);
        s.due("undo()", 1);
        s.due("count(5)", 3);
        s.due("breakAt(3, 0)", NOT_FOUND);
    }

    private static void reachedBreakPoints() {
        part("the least time t, greater than b, at which t less the lag is at least b");
        Calls s = new Calls(TALLY, "set(2, 3) type(120) type(64) type(49) right(2)");
        breaks(s, "delay(1, 1, 0)", 0, 1, 2, 3);
        breaks(s, "delay(1, 2, 0)", 0, 2, 4, 6);
        breaks(s, "delay(1, 5000, 0)", 0, 5000);
        breaks(s, "delay(1, 2666, 0)", 0, 2666, 5332, 7998);
        breaks(s, "delay(1, 2667, 0)", 0, 2667, 5334);
        // The lag is 10 + t / 2: 19 - 19 is 0, 57 - 38 is 19, 133 - 76 is 57.
        breaks(s, "delay(1, 10, 500)", 0, 19, 57, 133);
        // The lag is 1 + 9 * t / 10: 1 - 1 is 0, 11 - 10 is 1, 111 - 100 is 11.
        breaks(s, "delay(1, 1, 900)", 0, 1, 11, 111);
        // The lag is 10 - t / 2: 7 - 7 is 0; 11 - 5 is 6, 12 - 4 is 8; 14 - 3 is 11, 15 - 3 is 12.
        breaks(s, "delay(1, 10, -500)", 0, 7, 12, 15);
        // 5000 + 0.375 * t is 7999 at 7999, and 8000 at 8000; with 376 it is 8007 and 8008.
        breaks(s, "delay(1, 5000, 375)", 0, 7999);
        breaks(s, "delay(1, 5000, 376)", 0);
        breaks(s, "delay(1, 800, 900)", 0, 7991);
        breaks(s, "delay(1, 801, 900)", 0);
        breaks(s, "delay(1, 5000, 900)", 0);
        part("a time that has been passed over: t less the lag is greater than b");
        // The lag is 10 - 9 * t / 10: 5 - 6 is -1, 6 - 5 is 1; 8 - 3 is 5, 9 - 2 is 7; 10 - 1 is 9.
        breaks(s, "delay(1, 10, -900)", 0, 6, 9, 10);
    }

    private static void breaks(Calls s, String call, int... times) {
        s.good(call);
        TALLY.due(call + " break points", s.ask("count(5)"), times.length);
        for (int n = 0; n < times.length; n++) {
            TALLY.due(call + " time of " + n, s.ask("breakAt(" + n + ", 0)"), times[n]);
            TALLY.due(call + " order of " + n, s.ask("breakAt(" + n + ", 1)"), n);
        }
    }

    private static void lagsOfZeroAtBreakPoints() {
        part("none by this delay if the lag is 0 at this time");
        Calls s = new Calls(TALLY, "set(2, 3) type(120) type(64) type(49) right(2)");
        breaks(s, "delay(1, 0, 0)", 0);
        breaks(s, "delay(1, 0, 900)", 0);
        breaks(s, "delay(1, 0, -900)", 0);
        // The lag is 1 up to 999 and 0 from 1000 on.
        breaks(s, "delay(1, 1, -1)", 0, 1, 2, 3);
        // The lag is 1 at 0 and 1, 0 from 2 on: 1 is reached at 2, but the lag is 0 there.
        breaks(s, "delay(1, 1, -500)", 0, 1);
        // The lag is 2 at 0 and 1, 1 at 2 and 3, 0 at 4: 2 is reached at 3, and 3 at 4.
        breaks(s, "delay(1, 2, -500)", 0, 2, 3);
        part("the other delays make theirs all the same");
        s = new Calls(TALLY, "set(2, 2) delay(0, 5, 0) delay(1, 0, 0) delay(2, 7, 0)");
        s.right(0, "x@0+x@1+x@2");
        s.due("count(5)", 6);
        int[][] rows = {{0, 0, NOT_FOUND}, {5, 1, 0}, {7, 1, 2}, {10, 2, 0}, {12, 2, 0}, {14, 2, 2}};
        points(s, rows);
        part("greater than b: a lag that is 0 at b, but not at the next tick");
        // The lag t / 2 is 0 at 1, 1 at 2 and 3: from 1 it is reached at 2.
        s = new Calls(TALLY, "set(2, 2) delay(0, 1, 0) delay(1, 0, 500)");
        s.right(0, "x@0+x@1");
        points(s, new int[][] {{0, 0, NOT_FOUND}, {1, 1, 0}, {2, 2, 0}});
        s.right(0, "x@1");
        points(s, new int[][] {{0, 0, NOT_FOUND}});
        s.right(0, "x@1+x@2");
        s.all("delay(2, 1, -1)");
        points(s, new int[][] {{0, 0, NOT_FOUND}, {1, 1, 2}, {2, 2, 1}});
        part("a lag that is 0 only at first");
        // The lag t / 1000 is 0 up to 999: none from 0; from 2000 by the delay 0 it is reached at 2002.
        s = new Calls(TALLY, "set(2, 2) delay(0, 2000, 0) delay(1, 0, 1)");
        s.right(0, "x@0+x@1");
        points(s, new int[][] {{0, 0, NOT_FOUND}, {2000, 1, 0}, {2002, 2, 1}, {4000, 2, 0}});
    }

    private static void points(Calls s, int[][] rows) {
        s.due("count(5)", rows.length);
        for (int n = 0; n < rows.length; n++) {
            for (int what = 0; what <= 2; what++) {
                s.due("breakAt(" + n + ", " + what + ")", rows[n][what]);
            }
        }
    }

    private static void severalWays() {
        part("a time that is made by several ways is one break point; its order is the least one");
        Calls s = new Calls(TALLY, "set(2, 3) delay(0, 100, 0) delay(1, 300, 0) delay(2, 200, 0)");
        s.right(0, "x@0+x@1");
        points(s, new int[][] {{0, 0, NOT_FOUND}, {100, 1, 0}, {200, 2, 0}, {300, 1, 1}, {400, 2, 0}, {500, 3, 0},
            {600, 2, 1}, {700, 3, 0}, {900, 3, 1}});
        part("its delay the one with the lowest number by which it has this order");
        s.right(0, "x@1+x@2");
        s.all("delay(1, 300, 0) delay(2, 300, 0) set(2, 1)");
        points(s, new int[][] {{0, 0, NOT_FOUND}, {300, 1, 1}});
        s.right(0, "x@0+x@1+x@2");
        s.all("delay(0, 300, 0)");
        points(s, new int[][] {{0, 0, NOT_FOUND}, {300, 1, 0}});
        // 500 is 300 and then 200 by the delay 0, or 200 and then 300 by the delay 1.
        s.right(0, "x@0+x@1");
        s.all("delay(0, 200, 0) delay(1, 300, 0) set(2, 2)");
        points(s, new int[][] {{0, 0, NOT_FOUND}, {200, 1, 0}, {300, 1, 1}, {400, 2, 0}, {500, 2, 0}, {600, 2, 1}});
        s.all("delay(0, 300, 0) delay(1, 200, 0)");
        points(s, new int[][] {{0, 0, NOT_FOUND}, {200, 1, 1}, {300, 1, 0}, {400, 2, 1}, {500, 2, 0}, {600, 2, 0}});
        part("a lower number by which it has a greater order does not count");
        // 400 is 200 and then 200 by the delay 0, but also 400 by the delay 2.
        s.right(0, "x@0+x@2");
        s.all("delay(0, 200, 0) delay(2, 400, 0)");
        points(s, new int[][] {{0, 0, NOT_FOUND}, {200, 1, 0}, {400, 1, 2}, {600, 2, 0}, {800, 2, 2}});
        part("what it makes follows from its least order");
        s.all("set(2, 2)");
        s.due("breakAt(3, 1)", 2);
        s.all("set(2, 1)");
        points(s, new int[][] {{0, 0, NOT_FOUND}, {200, 1, 0}, {400, 1, 2}});
    }

    // ---- steps

    private static void lengthsOfSteps() {
        part("h is the least of STEP, what is left until the time, and what is left until the next break point");
        steps("set(0, 20) solve(20)", 20);
        steps("set(0, 20) solve(19)", 19);
        steps("set(0, 20) solve(21)", 20, 1);
        steps("set(0, 20) solve(40)", 20, 20);
        steps("set(0, 500) solve(500)", 500);
        steps("set(0, 500) solve(501)", 500, 1);
        steps("set(0, 500) solve(499)", 499);
        steps("solve(1) solve(1) solve(1)", 1, 1, 1);
        steps("solve(150) solve(150)", 100, 50, 100, 50);
        String used = "type(120) type(64) type(48) right(0) delay(0, 30, 0) ";
        steps(used + "solve(100)", 30, 30, 40);
        steps(used + "set(0, 30) solve(100)", 30, 30, 30, 10);
        steps(used + "set(0, 29) solve(100)", 29, 1, 29, 1, 29, 11);
        steps(used + "set(0, 31) solve(100)", 30, 30, 31, 9);
        steps(used + "solve(30) solve(30) solve(1)", 30, 30, 1);
        steps(used + "solve(29) solve(2)", 29, 1, 1);
        steps(used + "solve(31) solve(30)", 30, 1, 29, 1);
        steps(used + "set(2, 0) solve(100)", 100);
        steps(used + "set(2, 1) solve(100)", 30, 70);
        steps(used + "set(2, 3) solve(200)", 30, 30, 30, 100, 10);
        part("a delay that is not used makes no break point");
        steps("delay(0, 30, 0) solve(100)", 100);
        part("break points one tick apart");
        steps("type(120) type(64) type(48) right(0) delay(0, 1, 0) set(2, 3) solve(10)", 1, 1, 1, 7);
    }

    private static void steps(String setup, int... lengths) {
        Calls s = new Calls(TALLY, setup);
        TALLY.due(setup + " steps", s.ask("count(4)"), lengths.length);
        int begin = 0;
        for (int n = 0; n < lengths.length; n++) {
            TALLY.due(setup + " begin of " + n, s.ask("step(" + n + ", 0)"), begin);
            TALLY.due(setup + " length of " + n, s.ask("step(" + n + ", 1)"), lengths[n]);
            begin += lengths[n];
        }
        s.due("count(3)", begin);
        s.due("step(" + lengths.length + ", 0)", NOT_FOUND);
    }

    private static void pastOfAStep() {
        part("steps 1: a value of the past at a time u that is told below, on both sides of the ends of steps");
        // x is 1000 + t up to 100, then 1100 + 3 * (t - 100): x' jumps by min and max of t.
        for (int lag = 98; lag <= 102; lag++) {
            Calls s = new Calls(TALLY, "point(0, 0, 1000) set(2, 0) delay(0, " + lag + ", 0)");
            s.right(0, "min(3,max(1,(t-0.1)*9999+1))");
            s.right(1, "x@0");
            s.right(2, "x'@0");
            s.all("solve(100) solve(1)");
            s.due("value(0, 100)", 1100);
            s.due("rightAt(1, 100)", 1000 + Math.max(0, 100 - lag));
            s.due("solve(99)", 200);
            s.due("rightAt(2, 100)", lag < 100 ? 1000 : 0);
            int u = 200 - lag;
            s.due("rightAt(1, 200)", s.ask("value(0, " + u + ")"));
            s.due("rightAt(2, 200)", s.ask("slope(0, " + u + ")"));
        }
        part("ahead of the time 0, and at it, it is that of the history");
        Calls s = new Calls(TALLY, "point(0, -2, 10) point(0, -1, 20) point(0, 0, 50) set(2, 0) set(0, 20)");
        s.right(0, "9");
        s.right(1, "x@0");
        s.right(2, "x'@0");
        int[][] rows = {{7, 50 + 117, 9000}, {19, 50 + 9, 9000}, {20, 50, 0}, {21, 20, 30000}, {22, 10, 10000},
            {23, 10, 0}};
        for (int[] row : rows) {
            s.good("delay(0, " + row[0] + ", 0)");
            s.due("solve(20)", 20);
            s.due("rightAt(1, 20)", row[1]);
            s.due("rightAt(2, 20)", row[2]);
        }
    }

    private static void pastAtTheBeginOfAStep() {
        part("steps 1: where u is t itself: X, and the slope of the history, or at the end of the step before");
        Calls s = new Calls(TALLY, "point(0, -10, 0) point(0, 0, 50) set(0, 20)");
        s.right(0, "7");
        s.right(1, "x'@0");
        s.right(2, "x@0");
        s.due("solve(60)", 60);
        int[][] rows = {{0, 50}, {7000, 190}, {7000, 330}};
        for (int n = 0; n < 3; n++) {
            s.due("step(" + n + ", 3)", rows[n][0]);
            s.due("step(" + n + ", 4)", rows[n][1]);
        }
        // x from 1000: K = -10000, G = 800, L = -8000, Y = 820, A = 20: the step ends with the slope
        // -8000, though the next one begins with K = -8200.
        s = new Calls(TALLY, "point(0, 0, 1000) set(0, 20) set(2, 0)");
        s.right(0, "-10*x");
        s.right(1, "x'@0");
        s.due("solve(40)", 40);
        s.due("step(0, 3)", 0);
        s.due("slope(0, 20)", -8000);
        s.due("step(1, 2)", -8200);
        s.due("step(1, 3)", -8000);
        part("steps 3: where u is t itself, as in 1");
        s = new Calls(TALLY, "point(0, -10, 0) point(0, 0, 50) set(0, 20) set(2, 0) delay(0, 20, 0)");
        s.right(0, "7");
        s.right(1, "x'@0");
        s.right(2, "x@0");
        s.due("solve(40)", 40);
        // At 0 K looks at -20, ahead of the first point; at 20 L looks at 0.
        s.due("step(0, 3)", 0);
        s.due("value(1, 20)", 0);
        // K of z is 0, L is 50; then K is 50 and L is 190.
        s.due("value(2, 20)", 0);
        s.due("step(1, 4)", 50);
        s.due("value(2, 40)", 2);
        // K of y at 20 is the slope at 0, L at 40 that at 20.
        s.due("step(1, 3)", 0);
        s.due("value(1, 40)", 70);
    }

    private static void pastBehindTheBegin() {
        part("steps 3: a time u that is greater than t: the line from X to G");
        // x = 1000, K = 2000: G = 1200 at 100; the lag 99 looks at 1, the lag 1 at 99.
        int[][] rows = {{101, 1000, 0}, {100, 1000, 0}, {99, 1002, 2000}, {50, 1100, 2000}, {1, 1198, 2000},
            {0, 1200, 2000}};
        for (int[] row : rows) {
            Calls s = new Calls(TALLY, "point(0, 0, 1000) set(2, 0) set(1, 0) delay(0, " + row[0] + ", 0)");
            s.right(0, "2");
            s.right(1, "x@0*20");
            s.right(2, "x'@0*20");
            s.due("solve(100)", 100);
            // Y = (K + L) * 100 / 2000.
            s.due("step(0, 3)", 20000);
            s.due("value(1, 100)", row[1] + 1000);
            s.due("step(0, 4)", 0);
            s.due("value(2, 100)", row[2]);
        }
        part("steps 3: the lag is that at t + h");
        // At 200 the lag 100 + t / 2 is 200, and x is 0 then; 100 - t / 2 is 0, and x is 400 at 200.
        for (int part = 500; part >= -500; part -= 1000) {
            Calls s = new Calls(TALLY, "set(2, 0) set(1, 0) set(0, 200) delay(0, 100, " + part + ")");
            s.right(0, "2");
            s.right(1, "x@0*20");
            s.due("solve(200)", 200);
            s.due("value(1, 200)", part > 0 ? 0 : 400 * 20 * 200 / 2000);
        }
        part("steps 3: the line of a later step, whose slope and value are told from X");
        // x = 2 * t: X = 200 at 100, G = 400 at 200; the lag 30 looks at 170 (and at 70 by K).
        Calls later = new Calls(TALLY, "set(2, 0) set(1, 0) delay(0, 30, 0)");
        later.right(0, "2");
        later.right(1, "x@0*20");
        later.right(2, "x'@0*20");
        later.all("solve(200)");
        later.due("step(1, 3)", 140 * 20);
        later.due("value(1, 200)", 140 + 140 + 340);
        later.due("step(1, 4)", 40000);
        later.due("value(2, 200)", 2000 + 4000);
        part("steps 3: a name is the guess");
        Calls s = new Calls(TALLY, "point(0, 0, 1000)");
        s.right(0, "2");
        s.right(1, "x*20");
        s.due("solve(100)", 100);
        s.due("value(1, 100)", 1000 + 1200);
    }

    private static void rounds() {
        part("steps 5: so many times as the setting ROUNDS tells");
        int[] values = {1103000, 1103090, 1103092, 1103092, 1103092};
        for (int n = 0; n <= 4; n++) {
            Calls s = new Calls(TALLY, "point(0, 0, 1000000) set(2, 0) delay(0, 40, 0) set(1, " + n + ")");
            s.right(0, "x@0");
            s.due("solve(100)", 100);
            s.due("step(0, 5)", n);
            s.due("value(0, 100)", values[n]);
        }
        part("also the names and the slopes are those of the new guess");
        // x' = 10 * x + 0 * x@0 from 1000: K = 10000, G = 2000, L = 20000, Y = 2500; then L = 25000, Y = 2750.
        int[] grown = {2500, 2750, 2875, 2937, 2968};
        for (int n = 0; n <= 4; n++) {
            Calls s = new Calls(TALLY, "point(0, 0, 1000) set(2, 0) delay(0, 1, 0) set(1, " + n + ")");
            s.right(0, "10*x+0*x@0");
            s.right(1, "x'@0");
            s.due("solve(100)", 100);
            s.due("value(0, 100)", grown[n]);
            // K of y is 0, L the slope of the line to the guess: 10000 of G, then 15000 of Y = 2500.
            s.due("value(1, 100)", n == 0 ? 500 : (grown[n - 1] - 1000) * 10L * 100 / 2000);
        }
    }

    private static void roundsByLags() {
        part("steps 5: if the lag at t + h is less than h, and not 0");
        int[][] rows = {{0, 0}, {1, 2}, {2, 2}, {98, 2}, {99, 2}, {100, 0}, {101, 0}, {5000, 0}};
        for (int[] row : rows) {
            Calls s = new Calls(TALLY, "set(2, 0) set(1, 2) delay(1, " + row[0] + ", 0)");
            s.right(0, "x@1");
            s.due("solve(100)", 100);
            s.due("step(0, 5)", row[1]);
        }
        part("the lag at t + h, not that at t");
        Calls s = new Calls(TALLY, "set(2, 0) set(1, 2) delay(1, 150, -500)");
        s.right(0, "x@1");
        s.due("solve(300)", 300);
        // 100 at 100, 50 at 200, 0 at 300.
        s.due("step(0, 5)", 0);
        s.due("step(1, 5)", 2);
        s.due("step(2, 5)", 0);
        s = new Calls(TALLY, "set(2, 0) set(1, 2) delay(1, 0, 900)");
        s.right(0, "x@1");
        s.due("solve(200)", 200);
        // 90 at 100, 180 at 200.
        s.due("step(0, 5)", 2);
        s.due("step(1, 5)", 0);
        part("less than h, which a break point or the end may make short");
        s = new Calls(TALLY, "set(2, 1) set(1, 2) delay(1, 40, 0)");
        s.right(0, "x@1");
        s.all("solve(160) solve(40) solve(41)");
        int[][] steps = {{40, 0}, {100, 2}, {20, 0}, {40, 0}, {41, 2}};
        for (int n = 0; n < 5; n++) {
            s.due("step(" + n + ", 1)", steps[n][0]);
            s.due("step(" + n + ", 5)", steps[n][1]);
        }
        part("no rounds if ROUNDS is 0");
        s.due("set(1, 0)", 2);
        s.due("solve(160)", 160);
        s.due("step(1, 5)", 0);
    }

    private static void roundsByRightSides() {
        part("steps 5: any delay that one of the three right sides uses");
        for (int v = 0; v <= 2; v++) {
            for (int d = 0; d <= 2; d++) {
                for (String name : new String[] {"x@", "y'@", "z@"}) {
                    Calls s = new Calls(TALLY, "set(2, 0) set(1, 3) delay(" + d + ", 50, 0)");
                    s.right(v, name + d);
                    s.due("solve(100)", 100);
                    s.due("step(0, 5)", 3);
                    s.right(v, name + (d + 1) % 3);
                    s.due("solve(100)", 100);
                    s.due("step(0, 5)", 0);
                }
            }
        }
        part("one short lag is enough");
        Calls s = new Calls(TALLY, "set(2, 0) set(1, 3) delay(0, 500, 0) delay(1, 50, 0) delay(2, 0, 0)");
        s.right(0, "x@0+y@1+z@2");
        s.due("solve(100)", 100);
        s.due("step(0, 5)", 3);
        s.right(0, "x@0+z@2");
        s.due("solve(100)", 100);
        s.due("step(0, 5)", 0);
    }

    private static void betweenTheEnds() {
        part("between the ends of a step, and at them");
        // x' = 2 * t from 7: K = 0, L = 200, Y = 17, A = 10: 7 + 10 * e * e / 10000; then, from 17,
        // K = 200, L = 400, Y = 47, A = 10.
        Calls s = new Calls(TALLY, "point(0, 0, 7)");
        s.right(0, "2*t");
        s.due("solve(200)", 200);
        int[][] rows = {{0, 7, 0}, {1, 7, 2}, {31, 7, 62}, {32, 8, 64}, {50, 9, 100}, {99, 16, 198},
            {100, 17, 200}, {101, 17, 202}, {150, 29, 300}, {199, 45, 398}, {200, 47, 400}};
        for (int[] row : rows) {
            s.due("value(0, " + row[0] + ")", row[1]);
            s.due("slope(0, " + row[0] + ")", row[2]);
        }
        part("steps of one tick have nothing between their ends");
        s = new Calls(TALLY, "point(0, 0, 7)");
        s.right(0, "9");
        s.all("solve(1) solve(1)");
        s.due("value(0, 0)", 7);
        s.due("value(0, 1)", 16);
        s.due("value(0, 2)", 25);
        s.due("slope(0, 0)", 0);
        s.due("slope(0, 1)", 9000);
        s.due("slope(0, 2)", 9000);
        s.due("step(1, 0)", 1);
        s.due("step(1, 1)", 1);
    }

    private static void slopesAtTheEnds() {
        part("at a time at which a step ends, the slope is that of the step that ends there");
        // x' is 1 up to 100 and 5 behind it: K at 100 is 1000, L at 200 is 5000.
        Calls s = new Calls(TALLY);
        s.right(0, "1+min(4,max(0,(t-0.1)*9999))");
        s.due("solve(300)", 300);
        s.due("slope(0, 0)", 0);
        s.due("slope(0, 1)", 1000);
        s.due("slope(0, 99)", 1000);
        s.due("slope(0, 100)", 1000);
        s.due("slope(0, 101)", 1040);
        s.due("slope(0, 200)", 5000);
        s.due("slope(0, 201)", 5000);
        s.due("slope(0, 300)", 5000);
        part("also if the next step begins with another slope");
        // y' looks 100 back: at 200 its step has ended with 1000, that behind it begins with 1000.
        s = new Calls(TALLY, "point(1, -1, 1000) point(1, 0, 0) delay(0, 101, 0) set(2, 0)");
        s.right(0, "y@0");
        s.due("solve(200)", 200);
        s.due("slope(0, 100)", 1000);
        s.due("slope(0, 101)", 990);
        s.due("slope(0, 200)", 0);
        part("at the time 0 it is that of the history");
        s = new Calls(TALLY, "point(0, -5, 0) point(0, 0, 5)");
        s.right(0, "3");
        s.due("solve(10)", 10);
        s.due("slope(0, -1)", 1000);
        s.due("slope(0, 0)", 0);
        s.due("slope(0, 1)", 3000);
    }

    private static void sidesAtATime() {
        part("15: a right side with what is told for this time, and before");
        Calls s = new Calls(TALLY, "point(0, -1, 3) point(0, 0, 5) set(2, 0)");
        s.right(0, "2");
        s.right(1, "x+x@0+t");
        s.right(2, "x'@0+x'@1*10");
        s.all("delay(1, 1, 0) solve(150)");
        s.due("rightAt(1, 0)", 10);
        s.due("rightAt(2, 0)", 20000);
        s.due("rightAt(1, 1)", 7 + 7 + 1);
        s.due("rightAt(2, 1)", 2000);
        s.due("rightAt(2, 2)", 22000);
        s.due("rightAt(1, 99)", 203 + 203 + 99);
        s.due("rightAt(1, 100)", 205 + 205 + 100);
        s.due("rightAt(1, 101)", 207 + 207 + 101);
        s.due("rightAt(2, 100)", 22000);
        s.due("rightAt(1, 150)", 305 + 305 + 150);
        s.due("rightAt(1, 151)", NOT_FOUND);
        s.due("rightAt(0, 150)", 2000);
    }

    // ---- searches

    private static void crossings() {
        part("17: its value is at least the level, and that one tick earlier is less");
        Calls s = new Calls(TALLY, "point(0, 0, 10)");
        s.right(0, "1");
        s.right(1, "-1");
        s.due("solve(150)", 150);
        s.due("crossing(0, 10, 1)", NOT_FOUND);
        s.due("crossing(0, 11, 1)", 1);
        s.due("crossing(0, 11, 2)", NOT_FOUND);
        s.due("crossing(0, 60, 50)", 50);
        s.due("crossing(0, 60, 51)", NOT_FOUND);
        s.due("crossing(0, 110, 1)", 100);
        s.due("crossing(0, 111, 1)", 101);
        s.due("crossing(0, 111, 101)", 101);
        s.due("crossing(0, 160, 150)", 150);
        s.due("crossing(0, 161, 1)", NOT_FOUND);
        s.due("crossing(1, 0, 1)", NOT_FOUND);
        s.due("crossing(1, -150, 1)", NOT_FOUND);
        s.due("crossing(2, 0, 1)", NOT_FOUND);
        part("from the history at 0 to the time 1");
        s = new Calls(TALLY, "point(0, 0, -1000000) set(2, 0) delay(0, 1, 0)");
        s.right(0, "9999*9999");
        s.due("solve(2)", 2);
        s.due("crossing(0, -999999, 1)", 1);
        s.due("crossing(0, 0, 1)", 1);
        s.due("crossing(0, 1, 1)", 2);
        s.due("crossing(0, -1000000, 1)", NOT_FOUND);
        part("the tick earlier is the first one of a step, and \"from\" the second one");
        // x is -500 at 100, and goes on with K = 5000: -495 and -490, which the step before would not tell.
        s = new Calls(TALLY, "point(0, 0, -1000)");
        s.right(0, "-10*x");
        s.due("solve(200)", 200);
        s.due("value(0, 100)", -500);
        s.due("value(0, 101)", -495);
        s.due("crossing(0, -498, 100)", 101);
        s.due("crossing(0, -498, 101)", 101);
        s.due("crossing(0, -498, 102)", NOT_FOUND);
        s.due("greatest(0, 101, 101, 0)", -495);
        s.due("greatest(0, 99, 101, 1)", 101);
        part("a level that is come to twice: the first time from the one that is told");
        // x = e * (e - 100) / 20 in the first step, then again: K = -5000, L = 5000 at each 100.
        s = new Calls(TALLY, "set(0, 50)");
        s.right(0, "min(5,max(-5,(0.05-t)*9999))*max(-1,min(1,(0.125-t)*9999))");
        s.due("solve(500)", 500);
        int first = s.ask("crossing(0, 100, 1)");
        s.due("crossing(0, 100, " + first + ")", first);
        int second = s.ask("crossing(0, 100, " + (first + 1) + ")");
        TALLY.due("the second is later", second > first ? 1 : 0, 1);
        TALLY.due("less ahead of it", s.ask("value(0, " + (second - 1) + ")") < 100 ? 1 : 0, 1);
        TALLY.due("not less at it", s.ask("value(0, " + second + ")") >= 100 ? 1 : 0, 1);
    }

    private static void greatestValues() {
        part("18: from one time to another one, both with it; the first time with the greatest value");
        Calls s = new Calls(TALLY, "point(0, 0, 10) point(2, 0, -4)");
        s.right(0, "1");
        s.right(1, "-1");
        s.due("solve(150)", 150);
        s.due("greatest(0, 0, 150, 0)", 160);
        s.due("greatest(0, 0, 150, 1)", 150);
        s.due("greatest(0, 0, 0, 0)", 10);
        s.due("greatest(0, 99, 100, 0)", 110);
        s.due("greatest(0, 100, 101, 0)", 111);
        s.due("greatest(0, 101, 101, 1)", 101);
        s.due("greatest(1, 0, 150, 0)", 0);
        s.due("greatest(1, 0, 150, 1)", 0);
        s.due("greatest(1, 1, 150, 0)", -1);
        s.due("greatest(1, 100, 150, 1)", 100);
        s.due("greatest(1, 101, 150, 0)", -101);
        s.due("greatest(2, 0, 150, 1)", 0);
        s.due("greatest(2, 77, 150, 1)", 77);
        s.due("greatest(2, 77, 150, 0)", -4);
        part("a greatest value of several ticks, between the ends of a step");
        // x = e / 5 - e * e / 1000: 10 at the ticks around 100, where 9.99 is 9 and 10 is 10 (rounded alone).
        s = new Calls(TALLY, "set(0, 200)");
        s.right(0, "0.2-2*t");
        s.due("solve(200)", 200);
        int best = s.ask("greatest(0, 0, 200, 0)");
        int time = s.ask("greatest(0, 0, 200, 1)");
        for (int t = 0; t <= 200; t++) {
            int value = s.ask("value(0, " + t + ")");
            TALLY.due("none is greater at " + t, value <= best ? 1 : 0, 1);
            TALLY.due("less ahead of it at " + t, t >= time || value < best ? 1 : 0, 1);
        }
        s.due("value(0, " + time + ")", best);
    }

    private static void otherSteps() {
        part("19: as one call of solve() with all of these ticks would");
        // Two calls make steps of 50, one makes one of 100: x = t * t / 2000 is 1 + 3 or 5.
        Calls s = new Calls(TALLY, "solve(50)");
        s.right(0, "t");
        s.all("solve(50) solve(50)");
        s.due("value(0, 100)", 1 + 3);
        s.due("differs(100)", 1);
        s.due("differs(50)", 0);
        s.due("differs(500)", 1);
        part("19: more ticks than one call of solve() may have");
        s = new Calls(TALLY, "set(0, 500)");
        s.right(0, "1/9");
        s.all("solve(2000) solve(2000)");
        s.due("value(0, 4000)", 55 * 8);
        // 111 * 20 / 1000 is 2 in each of 200 steps.
        s.due("differs(20)", 440 - 400);
        s.due("differs(500)", 0);
        part("19: nothing changes");
        s.due("count(0)", 500);
        s.due("count(4)", 8);
        s.due("count(7)", 4);
        s.due("value(0, 4000)", 440);
        part("19: the greatest of the differences of the variables, of either sign");
        s = new Calls(TALLY);
        s.right(0, "t");
        s.right(1, "-t-t");
        s.right(2, "0.5*t");
        s.due("solve(100)", 100);
        s.due("value(1, 100)", -10);
        // In steps of 20: 0.2, 0.6, 1, 1.4, 1.8 and twice as much: 0, 0, 1, 1, 1 and 0, 1, 2, 2, 3.
        s.due("differs(20)", 10 - 8);
        s.right(1, "t+t");
        s.due("solve(100)", 100);
        s.due("differs(20)", 10 - 8);
        s.right(1, "0");
        s.due("solve(100)", 100);
        s.due("differs(20)", 5 - 3);
        s.right(0, "0");
        s.due("solve(100)", 100);
        // 0.1, 0.3, 0.5, 0.7, 0.9: 0.
        s.due("value(2, 100)", 2);
        s.due("differs(20)", 2);
        part("19: all but STEP is as it is set: ROUNDS, ORDER, the delays, the histories");
        int[] rounded = {1103000, 1103090, 1103092};
        for (int rounds = 0; rounds <= 2; rounds++) {
            s = new Calls(TALLY, "set(2, 0) point(0, 0, 1000000) delay(0, 40, 0) set(1, " + rounds + ")");
            s.right(0, "x@0");
            s.due("solve(100)", 100);
            s.due("value(0, 100)", rounded[rounds]);
            s.due("differs(100)", 0);
            s.due("differs(500)", 0);
        }
        for (int order = 0; order <= 3; order++) {
            s = new Calls(TALLY, "set(2, " + order + ") point(0, 0, 1000000) delay(0, 30, 0)");
            s.right(0, "x@0*5");
            s.due("solve(200)", 200);
            s.due("differs(100)", 0);
        }
        part("19: each call begins anew, whatever was solved for the one before");
        s = new Calls(TALLY, "set(0, 500)");
        s.right(0, "1/9");
        s.due("solve(2000)", 2000);
        s.due("differs(20)", 220 - 200);
        s.due("differs(500)", 0);
        s.due("differs(20)", 220 - 200);
        s.all("undo() solve(500)");
        s.due("differs(20)", 55 - 50);
        s.all("set(0, 500) point(0, 0, 7)");
        s.due("differs(20)", 0);
        part("19: the break points are hit too");
        s = new Calls(TALLY, "point(0, 0, 1000) delay(0, 30, 0)");
        s.right(0, "x@0");
        s.due("solve(90)", 90);
        int other = s.ask("differs(20)");
        int had = s.ask("value(0, 90)");
        s.all("set(0, 20) solve(90)");
        TALLY.due("differs(20)", other, Math.abs(s.ask("value(0, 90)") - had));
        s.due("step(1, 1)", 10);
    }

    // ---- changes

    private static void whatBeginsAnew() {
        part("right, delay, point, clear and set make the problem solved only up to the time 0 again");
        String[] anew = {"right(1)", "delay(0, 30, 0)", "delay(2, 0, 0)", "point(1, -7, 0)", "clear(2)", "clear(0)",
            "set(0, 100)", "set(1, 1)", "set(2, 2)", "set(0, 99)"};
        for (String call : anew) {
            Calls s = new Calls(TALLY, "delay(0, 30, 0) point(0, 0, 5)");
            s.right(0, "x@0");
            s.all("solve(70) solve(70) type(48)");
            s.due("count(7)", 4);
            s.good(call);
            s.due("count(3)", 0);
            s.due("count(4)", 0);
            s.due("count(7)", 4);
            s.due("step(0, 0)", NOT_FOUND);
            s.due("value(0, 1)", NOT_FOUND);
            s.due("value(0, 0)", call.equals("clear(0)") ? 0 : 5);
            s.due("undo()", 3);
            s.due("count(3)", 140);
            s.due("step(0, 1)", 30);
            s.due("undo()", 2);
            s.due("count(3)", 70);
        }
    }

    private static void whatIsNoChange() {
        part("no other call is a change, nor is one that returns an error");
        String[] none = {"type(120)", "wipe()", "fault()", "lag(0, 5)", "breakAt(0, 0)", "value(0, 5)", "slope(0, 5)",
            "rightAt(0, 5)", "step(0, 0)", "crossing(0, 5, 1)", "greatest(0, 0, 5, 0)", "differs(20)", "count(3)",
            "save(0)", "save(1)", "right(0)", "right(3)", "delay(3, 0, 0)", "point(0, 0, 5)", "point(0, 1, 5)",
            "clear(3)", "set(3, 0)", "set(0, 501)", "solve(0)", "solve(2001)", "restore(0)", "restore(2)"};
        for (String call : none) {
            Calls s = new Calls(TALLY, "point(0, 0, 5) solve(70)");
            s.ask(call);
            s.due("count(7)", 2);
            s.due("count(3)", 70);
            s.due("undo()", 1);
            s.due("count(3)", 0);
            s.due("undo()", 0);
            s.due("count(8)", 0);
        }
        part("each of these is a change");
        String[] changes = {"right(0)", "delay(0, 0, 0)", "point(0, -1, 5)", "clear(0)", "clear(1)", "set(0, 100)",
            "solve(1)", "restore(0)", "restore(1)"};
        for (String call : changes) {
            Calls s = new Calls(TALLY, "point(0, 0, 5) save(0) solve(70) save(1) type(48)");
            s.good(call);
            s.due("count(7)", 3);
            s.due("undo()", 2);
            s.due("count(3)", 70);
            s.due("undo()", 1);
            s.due("count(3)", 0);
            s.due("count(8)", 1);
        }
    }

    private static void whatAStateIs() {
        part("a state is everything but the text, the slots and the kept states");
        Calls s = new Calls(TALLY, "point(0, 0, 5) delay(1, 9, 3) set(0, 50)");
        s.right(1, "x@1");
        s.all("solve(60) save(0)");
        s.type("z-");
        s.all("clear(0) delay(1, 3, 9) set(0, 60) solve(7)");
        s.due("count(6)", 2);
        s.due("restore(0)", 60);
        s.due("count(6)", 2);
        s.due("count(7)", 4);
        s.due("fault()", 2);
        s.due("count(0)", 50);
        s.due("count(8)", 1);
        s.due("count(12)", 3);
        s.due("lag(1, 0)", 9);
        s.due("count(5)", 3);
        s.due("value(0, 60)", 5);
        s.due("type(49)", 3);
        s.due("undo()", 3);
        s.due("count(6)", 3);
        s.due("count(0)", 60);
        s.due("count(8)", 0);
        s.due("count(12)", 9);
        s.due("lag(1, 0)", 3);
        s.due("count(3)", 7);
        s.due("save(0)", 7);
        s.due("undo()", 2);
        s.due("count(3)", 0);
        s.due("restore(0)", 7);
        s.due("right(0)", 0);
        s.due("undo()", 3);
        s.due("count(6)", 0);
    }

    private static void errorsTogether() {
        part("INVALID_ARGUMENT rather than NOT_POSSIBLE, LIMIT_REACHED and NOT_FOUND");
        Calls s = new Calls(TALLY);
        s.due("right(3)", INVALID);
        s.due("restore(2)", INVALID);
        s.due("breakAt(1, 3)", INVALID);
        s.due("breakAt(-1, 2)", INVALID);
        s.due("breakAt(0, 3)", INVALID);
        s.due("value(3, 1)", INVALID);
        s.due("slope(-1, 1)", INVALID);
        s.due("rightAt(3, 1)", INVALID);
        s.due("step(0, 6)", INVALID);
        s.due("step(-1, 0)", INVALID);
        s.due("crossing(3, 0, 1)", INVALID);
        s.due("crossing(0, 1000000001, 1)", INVALID);
        s.due("greatest(0, 0, 1, 2)", INVALID);
        s.due("greatest(3, 0, 1, 0)", INVALID);
        s.type("x".repeat(80));
        s.due("type(32)", INVALID);
        s.due("type(127)", INVALID);
        s.due("type(120)", LIMIT);
        s.due("right(-1)", INVALID);
        s.due("right(0)", NOT_POSSIBLE);
        part("NOT_POSSIBLE rather than LIMIT_REACHED");
        for (int n = 0; n < 6; n++) {
            s.due("point(0, " + -n + ", 1)", n + 1);
        }
        s.due("point(0, -5, 1)", NOT_POSSIBLE);
        s.due("point(0, -6, 1)", LIMIT);
        s.due("point(3, -5, 1)", INVALID);
        s.due("point(0, -5, 1000001)", INVALID);
        s.due("point(0, 1, 1)", INVALID);
        part("an error leaves all as it was");
        s.due("count(6)", 80);
        s.due("count(8)", 6);
        s.due("count(7)", 4);
    }
}
