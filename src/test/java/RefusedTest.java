import java.util.ArrayList;
import java.util.List;

/**
 * A call that returns an error changes nothing: in several states each refused call is made, and all
 * that can be asked then is compared with an object of the same state that was not asked.
 */
public final class RefusedTest {
    private static final int INVALID = LagSolver.INVALID_ARGUMENT;
    private static final int NOT_POSSIBLE = LagSolver.NOT_POSSIBLE;
    private static final int LIMIT = LagSolver.LIMIT_REACHED;
    private static final int NOT_FOUND = LagSolver.NOT_FOUND;
    private static final int MIN = Integer.MIN_VALUE;
    private static final int MAX = Integer.MAX_VALUE;
    private static final Tally TALLY = new Tally();

    private static final String TEXT = "type(120) type(64) type(48) type(45) type(122) ";
    private static final String FAULTY = TEXT + "type(43) ";
    private static final String RICH = "delay(0, 30, 5) delay(1, 90, -3) delay(2, 400, 0)"
            + " point(0, -20, 900) point(0, -7, -300) point(0, 0, 50) point(1, 0, 1000) point(2, -9, 77)"
            + " type(121) type(39) type(64) type(49) right(0) type(45) type(120) type(64) type(48) right(1)"
            + " type(116) right(2) set(0, 40) save(0) solve(130) solve(201) ";
    private static final String SIX_POINTS = "point(0, 0, 5) point(0, -1, 6) point(0, -2, 7) point(0, -3, 8)"
            + " point(0, -4, 9) point(0, -5, 10) ";
    private static final String TO_8000 = "solve(2000) solve(2000) solve(2000) solve(2000) ";

    /** A name, the calls that lead to the state, and the calls that it refuses with the error that is due. */
    private static final Object[][] STATES = {
        {"new", "",
            "right(0)", NOT_POSSIBLE, "undo()", NOT_POSSIBLE, "restore(0)", NOT_POSSIBLE, "restore(1)", NOT_POSSIBLE,
            "breakAt(0, 2)", NOT_FOUND, "breakAt(1, 0)", NOT_FOUND, "value(0, 1)", NOT_FOUND,
            "slope(2, 8000)", NOT_FOUND, "rightAt(1, 1)", NOT_FOUND, "step(0, 0)", NOT_FOUND,
            "crossing(0, 0, 1)", NOT_FOUND, "greatest(0, 0, 1, 0)", NOT_FOUND},
        {"solved", RICH + TEXT,
            "fault()", NOT_FOUND, "point(0, -7, 4)", NOT_POSSIBLE, "point(2, -9, 4)", NOT_POSSIBLE,
            "restore(1)", NOT_POSSIBLE, "breakAt(0, 2)", NOT_FOUND, "breakAt(99, 0)", NOT_FOUND,
            "value(0, 332)", NOT_FOUND, "slope(0, 332)", NOT_FOUND, "rightAt(0, 332)", NOT_FOUND,
            "step(99, 0)", NOT_FOUND, "crossing(2, 1000000000, 1)", NOT_FOUND, "crossing(2, 0, 332)", NOT_FOUND,
            "greatest(0, 0, 332, 0)", NOT_FOUND, "greatest(0, 332, 332, 1)", NOT_FOUND},
        {"with a fault", RICH + FAULTY,
            "right(0)", NOT_POSSIBLE, "right(2)", NOT_POSSIBLE, "right(3)", INVALID, "restore(1)", NOT_POSSIBLE},
        {"full text", "solve(10) save(1) " + "type(49) type(43) ".repeat(39) + "type(49) type(48) ",
            "type(49)", LIMIT, "type(33)", LIMIT, "type(126)", LIMIT, "fault()", NOT_FOUND,
            "restore(0)", NOT_POSSIBLE},
        {"full history", SIX_POINTS + TEXT,
            "point(0, -6, 1)", LIMIT, "point(0, -10000, 1)", LIMIT, "point(0, 0, 1)", NOT_POSSIBLE,
            "point(0, -5, 1)", NOT_POSSIBLE, "value(0, 1)", NOT_FOUND},
        {"solved to 8000", "type(49) right(0) set(0, 500) " + TO_8000 + "save(0) save(1) " + TEXT,
            "solve(1)", LIMIT, "solve(2000)", LIMIT, "step(16, 0)", NOT_FOUND, "crossing(0, 8001, 1)", NOT_FOUND},
        {"solved to 7000", "type(49) right(0) solve(2000) solve(2000) solve(2000) solve(1000) " + TEXT,
            "solve(1001)", LIMIT, "solve(2000)", LIMIT, "value(1, 7001)", NOT_FOUND, "value(1, 8000)", NOT_FOUND,
            "greatest(1, 7000, 7001, 1)", NOT_FOUND},
        {"all undone", "solve(10) save(1) solve(10) undo() undo() " + TEXT,
            "undo()", NOT_POSSIBLE, "restore(0)", NOT_POSSIBLE, "value(0, 1)", NOT_FOUND, "step(0, 1)", NOT_FOUND}};

    private static final String[] INVALID_CALLS = {
        "type(32)", "type(127)", "type(" + MIN + ")", "type(" + MAX + ")", "type(376)",
        "right(-1)", "right(3)", "right(" + MIN + ")", "right(" + MAX + ")",
        "delay(-1, 9, 9)", "delay(3, 9, 9)", "delay(0, -1, 9)", "delay(0, 5001, 9)", "delay(0, 9, -901)",
        "delay(0, 9, 901)", "delay(" + MIN + ", 9, 9)", "delay(0, " + MAX + ", 9)", "delay(0, 9, " + MIN + ")",
        "point(-1, -99, 9)", "point(3, -99, 9)", "point(0, 1, 9)", "point(0, -10001, 9)", "point(0, -99, 1000001)",
        "point(0, -99, -1000001)", "point(" + MAX + ", -99, 9)", "point(0, " + MIN + ", 9)",
        "point(0, -99, " + MIN + ")", "point(0, 0, 1000001)",
        "clear(-1)", "clear(3)", "clear(" + MIN + ")", "clear(" + MAX + ")",
        "set(-1, 100)", "set(3, 1)", "set(0, 19)", "set(0, 501)", "set(1, -1)", "set(1, 5)", "set(2, -1)",
        "set(2, 4)", "set(" + MIN + ", 1)", "set(" + MAX + ", 1)", "set(0, " + MIN + ")", "set(1, " + MAX + ")",
        "lag(-1, 0)", "lag(3, 0)", "lag(0, -1)", "lag(0, 8001)", "lag(" + MIN + ", 0)", "lag(0, " + MAX + ")",
        "breakAt(-1, 0)", "breakAt(0, -1)", "breakAt(0, 3)", "breakAt(" + MIN + ", 0)", "breakAt(0, " + MAX + ")",
        "breakAt(" + MAX + ", 3)",
        "solve(0)", "solve(-1)", "solve(2001)", "solve(" + MIN + ")", "solve(" + MAX + ")",
        "value(-1, 0)", "value(3, 0)", "value(0, -10001)", "value(0, 8001)", "value(" + MIN + ", " + MIN + ")",
        "value(0, " + MAX + ")", "value(3, 8000)",
        "slope(-1, 0)", "slope(3, 0)", "slope(0, -10001)", "slope(0, 8001)", "slope(" + MAX + ", 0)",
        "slope(0, " + MIN + ")", "slope(-1, 8000)",
        "rightAt(-1, 0)", "rightAt(3, 0)", "rightAt(0, -1)", "rightAt(0, 8001)", "rightAt(" + MIN + ", 0)",
        "rightAt(0, " + MAX + ")", "rightAt(3, 8000)",
        "step(-1, 0)", "step(0, -1)", "step(0, 6)", "step(" + MIN + ", 0)", "step(0, " + MAX + ")",
        "step(" + MAX + ", 6)",
        "crossing(-1, 0, 1)", "crossing(3, 0, 1)", "crossing(0, -1000000001, 1)", "crossing(0, 1000000001, 1)",
        "crossing(0, 0, 0)", "crossing(0, 0, 8001)", "crossing(0, " + MIN + ", 1)", "crossing(0, 0, " + MIN + ")",
        "crossing(0, 0, " + MAX + ")", "crossing(" + MAX + ", 0, 8000)",
        "greatest(-1, 0, 0, 0)", "greatest(3, 0, 0, 0)", "greatest(0, -1, 0, 0)", "greatest(0, 8001, 8001, 0)",
        "greatest(0, 6, 5, 0)", "greatest(0, 0, 8001, 0)", "greatest(0, 0, 0, -1)", "greatest(0, 0, 0, 2)",
        "greatest(0, " + MIN + ", " + MAX + ", 0)", "greatest(0, 8000, 8000, 2)",
        "differs(19)", "differs(501)", "differs(-1)", "differs(" + MIN + ")", "differs(" + MAX + ")",
        "count(-1)", "count(15)", "count(" + MIN + ")", "count(" + MAX + ")",
        "save(-1)", "save(2)", "save(" + MIN + ")", "save(" + MAX + ")",
        "restore(-1)", "restore(2)", "restore(" + MIN + ")", "restore(" + MAX + ")"};

    public static void main(String[] args) {
        for (Object[] state : STATES) {
            String setup = (String) state[1];
            List<Integer> before = all(new Calls(TALLY, setup));
            for (int n = 2; n < state.length; n += 2) {
                refused((String) state[0], setup, (String) state[n], (Integer) state[n + 1], before);
            }
            for (String call : INVALID_CALLS) {
                refused((String) state[0], setup, call, INVALID, before);
            }
            asked((String) state[0], setup, before);
        }
        TALLY.end("RefusedTest");
    }

    private static void refused(String name, String setup, String call, int error, List<Integer> before) {
        TALLY.part(name);
        Calls s = new Calls(TALLY, setup);
        s.due(call, error);
        same(name, call, all(s), before);
    }

    /** Calls that only tell something: they change nothing either. */
    private static void asked(String name, String setup, List<Integer> before) {
        String[] asking = {"fault()", "lag(0, 8000)", "breakAt(0, 1)", "value(0, 0)", "slope(0, -7)", "rightAt(2, 0)",
            "step(0, 2)", "crossing(1, 0, 1)", "greatest(2, 0, 0, 1)", "differs(77)", "count(3)"};
        for (String call : asking) {
            Calls s = new Calls(TALLY, setup);
            s.ask(call);
            same(name, call, all(s), before);
        }
    }

    private static void same(String name, String call, List<Integer> after, List<Integer> before) {
        TALLY.part(name + ", behind " + call);
        TALLY.due("answers", after.size(), before.size());
        for (int n = 0; n < before.size() && n < after.size(); n++) {
            TALLY.due("answer " + n, after.get(n), before.get(n));
        }
    }

    /** All that an object tells: of its state, of the kept ones, of the slots, and of its text. */
    private static List<Integer> all(Calls s) {
        List<Integer> told = new ArrayList<>();
        inFull(s, told);
        int left = s.ask("undo()");
        for (int n = 0; n < 4 && left >= 0; n++) {
            told.add(left);
            brief(s, told);
            left = s.ask("undo()");
        }
        told.add(left);
        for (int slot = 0; slot <= 1; slot++) {
            told.add(s.ask("restore(" + slot + ")"));
            brief(s, told);
        }
        told.add(s.ask("fault()"));
        told.add(s.ask("right(1)"));
        told.add(s.ask("rightAt(1, 0)"));
        told.add(s.ask("wipe()"));
        return told;
    }

    private static void inFull(Calls s, List<Integer> told) {
        brief(s, told);
        for (int index = 0; index < 6; index++) {
            for (int what = 0; what <= 2; what++) {
                told.add(s.ask("breakAt(" + index + ", " + what + ")"));
            }
        }
        int[] times = {-21, -8, -6, -1, 10, 130, 131, 331};
        for (int v = 0; v <= 2; v++) {
            for (int time : times) {
                told.add(s.ask("value(" + v + ", " + time + ")"));
                told.add(s.ask("slope(" + v + ", " + time + ")"));
            }
            told.add(s.ask("rightAt(" + v + ", 0)"));
            told.add(s.ask("rightAt(" + v + ", 331)"));
            told.add(s.ask("greatest(" + v + ", 0, " + s.ask("count(3)") + ", 0)"));
        }
        for (int step = 0; step < 3; step++) {
            for (int what = 0; what <= 5; what++) {
                told.add(s.ask("step(" + step + ", " + what + ")"));
            }
        }
        told.add(s.ask("differs(20)"));
    }

    private static void brief(Calls s, List<Integer> told) {
        for (int what = 0; what <= 14; what++) {
            told.add(s.ask("count(" + what + ")"));
        }
        int end = s.ask("count(3)");
        for (int n = 0; n <= 2; n++) {
            told.add(s.ask("value(" + n + ", 0)"));
            told.add(s.ask("value(" + n + ", " + end + ")"));
            told.add(s.ask("lag(" + n + ", 1000)"));
        }
    }
}
