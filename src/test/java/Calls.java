import java.lang.reflect.InvocationTargetException;
import java.lang.reflect.Method;
import java.util.HashMap;
import java.util.Map;

/** One LagSolver whose calls are written as texts, such as "point(0, -5, 7)". */
final class Calls {
    /** What is answered by a call after the 512th one is free, so no test makes more. */
    private static final int MOST = 512;
    private static final Map<String, Method> METHODS = methods();

    private final Tally tally;
    private final LagSolver solver = new LagSolver();
    private int made;

    Calls(Tally tally) {
        this.tally = tally;
    }

    /** Makes the calls that the text tells, one after the other: "delay(0, 250, 0) solve(10)". */
    Calls(Tally tally, String setup) {
        this(tally);
        all(setup);
    }

    private static Map<String, Method> methods() {
        Map<String, Method> methods = new HashMap<>();
        for (Method m : LagSolver.class.getDeclaredMethods()) {
            methods.put(m.getName(), m);
        }
        return methods;
    }

    int ask(String call) {
        made++;
        if (made > MOST) {
            tally.fail("more than 512 calls: " + call);
        }
        String[] parts = call.split("[(), ]+");
        Object[] numbers = new Object[parts.length - 1];
        for (int n = 0; n < numbers.length; n++) {
            numbers[n] = Integer.valueOf(parts[n + 1]);
        }
        try {
            return (Integer) METHODS.get(parts[0]).invoke(solver, numbers);
        } catch (IllegalAccessException | InvocationTargetException e) {
            throw new IllegalStateException(call, e);
        }
    }

    void due(String call, long want) {
        tally.due(call, ask(call), want);
    }

    /** A call that must answer no error; what it answers is of no account. */
    void good(String call) {
        int got = ask(call);
        if (got >= LagSolver.NOT_FOUND && got <= LagSolver.INVALID_ARGUMENT) {
            tally.fail(call + " answered the error " + got);
        }
    }

    void all(String setup) {
        int from = 0;
        for (int end = setup.indexOf(')'); end >= 0; end = setup.indexOf(')', from)) {
            ask(setup.substring(from, end + 1).trim());
            from = end + 1;
        }
    }

    void type(String text) {
        for (int n = 0; n < text.length(); n++) {
            ask("type(" + (int) text.charAt(n) + ")");
        }
    }

    /** Makes a text the right side of a variable; returns the delays that it uses. */
    int right(int variable, String text) {
        ask("wipe()");
        type(text);
        return ask("right(" + variable + ")");
    }

    int made() {
        return made;
    }
}
