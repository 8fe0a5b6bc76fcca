import java.util.ArrayList;
import java.util.List;
import java.util.Random;

/** Compares LagSolver with the Model in long runs of calls that a fixed seed chooses. */
public final class CompareTest {
    private static final int RUNS = 400;
    private static final String[] CALLS = {
        "type", "wipe", "fault", "right", "delay", "point", "clear", "set", "lag", "breakAt", "solve",
        "value", "slope", "rightAt", "step", "crossing", "greatest", "differs", "count", "undo", "save",
        "restore"};

    private final Random random;
    private final int mood;
    private final LagSolver solver = new LagSolver();
    private final Model model = new Model();
    private final List<String> told = new ArrayList<>();
    private final Tally tally;
    private int calls;

    private CompareTest(int seed, Tally tally) {
        random = new Random(seed);
        mood = seed % 8;
        this.tally = tally;
    }

    public static void main(String[] args) {
        Tally tally = new Tally();
        int runs = args.length > 0 ? Integer.parseInt(args[0]) : RUNS;
        for (int seed = 0; seed < runs && tally.isClean(); seed++) {
            tally.part("seed " + seed);
            new CompareTest(seed, tally).run();
        }
        tally.end("CompareTest");
    }

    private void run() {
        if (random.nextInt(3) > 0) {
            prepare();
        }
        while (calls < 512 && tally.isClean()) {
            if (random.nextInt(mood == 7 ? 8 : 150) == 0) {
                typeRight();
            } else {
                callAny();
            }
        }
        if (!tally.isClean()) {
            told.forEach(System.out::println);
        }
    }

    private void prepare() {
        for (int d = 0; d < 3; d++) {
            delayCall(d);
        }
        for (int v = 0; v < 3; v++) {
            typeText(sum(2));
            call("right", v);
            for (int n = random.nextInt(5); n > 0; n--) {
                pointCall(v);
            }
        }
        if (random.nextBoolean()) {
            call("set", 0, 20 + random.nextInt(481));
            call("set", 1, random.nextInt(5));
            call("set", 2, random.nextInt(4));
        }
    }

    private void typeRight() {
        if (random.nextInt(3) > 0) {
            call("wipe");
        }
        String text = sum(1 + random.nextInt(mood == 7 ? 7 : 3));
        if (random.nextInt(5) == 0) {
            text = spoilt(text);
        }
        if (text.length() > 80 && random.nextInt(8) > 0) {
            text = sum(1);
        }
        typeText(text);
        call("fault");
        call("right", random.nextInt(3));
    }

    private String spoilt(String text) {
        int at = random.nextInt(text.length());
        String signs = "xyzt'@0123456789.+-*/(),minaw";
        char c = signs.charAt(random.nextInt(signs.length()));
        return random.nextBoolean() ? text.substring(0, at) + c + text.substring(at)
                : text.substring(0, at) + text.substring(at + 1);
    }

    private void typeText(String text) {
        for (int i = 0; i < text.length() && i < 90; i++) {
            call("type", text.charAt(i));
        }
    }

    private String sum(int depth) {
        StringBuilder s = new StringBuilder(term(depth));
        for (int n = random.nextInt(3); n > 0; n--) {
            s.append(random.nextBoolean() ? '+' : '-').append(term(depth));
        }
        return s.toString();
    }

    private String term(int depth) {
        StringBuilder s = new StringBuilder(unit(depth));
        if (random.nextInt(3) == 0) {
            s.append(random.nextBoolean() ? '*' : '/').append(unit(depth));
        }
        return s.toString();
    }

    private String unit(int depth) {
        int kind = random.nextInt(depth > 0 ? 12 : 8);
        String name = "" + (char) ('x' + random.nextInt(3));
        if (kind < 1) return number();
        if (kind < 2) return "t";
        if (kind < 4) return name;
        if (kind < 6) return name + "@" + random.nextInt(3);
        if (kind < 8) return name + "'@" + random.nextInt(3);
        if (kind < 9) return "-" + unit(depth - 1);
        if (kind < 11) return "(" + sum(depth - 1) + ")";
        return (random.nextBoolean() ? "min(" : "max(") + sum(depth - 1) + "," + sum(depth - 1) + ")";
    }

    private String number() {
        String s = "" + random.nextInt(random.nextBoolean() ? 10 : 10000);
        return random.nextBoolean() ? s : s + "." + random.nextInt(random.nextBoolean() ? 10 : 1000);
    }

    private void delayCall(int d) {
        int constant = mood % 2 == 0 ? random.nextInt(300) : random.nextInt(5001);
        if (random.nextInt(4) == 0) {
            constant = random.nextInt(3);
        }
        int part = random.nextInt(3) == 0 ? 0 : random.nextInt(1801) - 900;
        call("delay", d, constant, random.nextInt(6) == 0 ? part / 100 : part);
    }

    private void pointCall(int v) {
        int time = -random.nextInt(mood < 4 ? 20 : random.nextBoolean() ? 500 : 10001);
        int size = mood % 3 == 0 ? 1000000 : mood % 3 == 1 ? 3000 : 10;
        call("point", v, time, random.nextInt(2 * size + 1) - size);
    }

    private void callAny() {
        int end = model.count(3);
        int v = oneOf(3);
        String name = CALLS[random.nextInt(CALLS.length)];
        // Most calls that would begin the problem anew become calls that solve it further.
        if ("right delay point clear set undo".contains(name) && random.nextInt(mood < 6 ? 4 : 2) > 0) {
            name = "solve";
        }
        switch (name) {
            case "type":
                if (random.nextInt(4) == 0) {
                    call("type", random.nextBoolean() ? near(33, 126) : "x@0+1".charAt(random.nextInt(5)));
                }
                break;
            case "delay":
                if (random.nextInt(3) == 0) {
                    call("delay", v, near(0, 5000), near(-900, 900));
                } else if (random.nextInt(3) == 0) {
                    delayCall(random.nextInt(3));
                }
                break;
            case "point":
                if (random.nextInt(4) == 0) {
                    call("point", v, near(-10000, 0), near(-1000000, 1000000));
                } else if (random.nextInt(3) == 0) {
                    pointCall(random.nextInt(3));
                }
                break;
            case "clear":
                if (random.nextInt(4) == 0) call("clear", v);
                break;
            case "set":
                if (random.nextInt(2) == 0) {
                    int what = oneOf(3);
                    call("set", what, what == 0 ? near(20, 500) : what == 1 ? near(0, 4) : near(0, 3));
                }
                break;
            case "lag":
                call("lag", v, near(0, 8000));
                break;
            case "breakAt":
                call("breakAt", near(0, 41), oneOf(3));
                call("breakAt", random.nextInt(12), random.nextInt(3));
                break;
            case "solve":
                if (random.nextInt(3) > 0) {
                    call("solve", random.nextInt(6) == 0 ? near(1, 2000) : 1 + random.nextInt(mood < 6 ? 700 : 2000));
                }
                break;
            case "value":
                call("value", v, random.nextInt(4) == 0 ? near(-10000, 8000) : random.nextInt(end + 20));
                break;
            case "slope":
                call("slope", v, random.nextInt(4) == 0 ? near(-10000, 8000) : random.nextInt(end + 20) - 10);
                break;
            case "rightAt":
                call("rightAt", v, random.nextInt(4) == 0 ? near(0, 8000) : random.nextInt(end + 20));
                break;
            case "step":
                call("step", near(0, model.count(4)), oneOf(6));
                break;
            case "crossing":
                crossingCall(v, end);
                break;
            case "greatest":
                int from = random.nextInt(4) == 0 ? near(0, 8000) : random.nextInt(end + 1);
                int to = random.nextInt(3) == 0 ? near(0, 8000) : from + random.nextInt(end + 1 - Math.min(end, Math.max(0, from)));
                call("greatest", v, from, to, oneOf(2));
                break;
            case "differs":
                call("differs", near(20, 500));
                break;
            case "count":
                call("count", near(0, 14));
                break;
            case "wipe":
                if (random.nextInt(8) == 0) call("wipe");
                break;
            case "undo":
                if (random.nextInt(3) == 0) call("undo");
                break;
            case "save":
                call("save", oneOf(2));
                break;
            case "restore":
                if (random.nextInt(3) == 0) call("restore", oneOf(2));
                break;
            case "fault":
                call("fault");
                break;
            default:
                call("right", v);
                break;
        }
    }

    private void crossingCall(int v, int end) {
        int level = near(-1000000000, 1000000000);
        if (end > 0 && random.nextInt(4) > 0) {
            int some = model.value(Math.max(0, Math.min(2, v)), random.nextInt(end + 1));
            level = some + random.nextInt(3) - 1;
        }
        call("crossing", v, level, random.nextInt(4) == 0 ? near(1, 8000) : random.nextInt(end + 5));
    }

    /** A number from 0 to count - 1, or seldom one beside them. */
    private int oneOf(int count) {
        int k = random.nextInt(30);
        return k == 0 ? -1 : k == 1 ? count : k == 2 ? random.nextInt() : random.nextInt(count);
    }

    /** A number from least to most, often an end, seldom one beside them. */
    private int near(int least, int most) {
        switch (random.nextInt(24)) {
            case 0:
                return least - 1;
            case 1:
                return most + 1;
            case 2:
                return random.nextBoolean() ? Integer.MIN_VALUE : Integer.MAX_VALUE;
            case 3:
            case 4:
                return least;
            case 5:
            case 6:
                return most;
            default:
                return least + (int) (random.nextDouble() * ((double) most - least + 1));
        }
    }

    private void call(String name, int... a) {
        if (calls >= 512 || !tally.isClean()) {
            return;
        }
        calls++;
        int got = ask(solver, name, a);
        int want = ask(model, name, a);
        String words = name + java.util.Arrays.toString(a);
        told.add(calls + " " + words + " " + want);
        tally.due(calls + " " + words, got, want);
    }

    private static int ask(LagSolver s, String name, int[] a) {
        switch (name) {
            case "type": return s.type(a[0]);
            case "wipe": return s.wipe();
            case "fault": return s.fault();
            case "right": return s.right(a[0]);
            case "delay": return s.delay(a[0], a[1], a[2]);
            case "point": return s.point(a[0], a[1], a[2]);
            case "clear": return s.clear(a[0]);
            case "set": return s.set(a[0], a[1]);
            case "lag": return s.lag(a[0], a[1]);
            case "breakAt": return s.breakAt(a[0], a[1]);
            case "solve": return s.solve(a[0]);
            case "value": return s.value(a[0], a[1]);
            case "slope": return s.slope(a[0], a[1]);
            case "rightAt": return s.rightAt(a[0], a[1]);
            case "step": return s.step(a[0], a[1]);
            case "crossing": return s.crossing(a[0], a[1], a[2]);
            case "greatest": return s.greatest(a[0], a[1], a[2], a[3]);
            case "differs": return s.differs(a[0]);
            case "count": return s.count(a[0]);
            case "undo": return s.undo();
            case "save": return s.save(a[0]);
            case "restore": return s.restore(a[0]);
            default: throw new IllegalArgumentException(name);
        }
    }

    private static int ask(Model s, String name, int[] a) {
        switch (name) {
            case "type": return s.type(a[0]);
            case "wipe": return s.wipe();
            case "fault": return s.fault();
            case "right": return s.right(a[0]);
            case "delay": return s.delay(a[0], a[1], a[2]);
            case "point": return s.point(a[0], a[1], a[2]);
            case "clear": return s.clear(a[0]);
            case "set": return s.set(a[0], a[1]);
            case "lag": return s.lag(a[0], a[1]);
            case "breakAt": return s.breakAt(a[0], a[1]);
            case "solve": return s.solve(a[0]);
            case "value": return s.value(a[0], a[1]);
            case "slope": return s.slope(a[0], a[1]);
            case "rightAt": return s.rightAt(a[0], a[1]);
            case "step": return s.step(a[0], a[1]);
            case "crossing": return s.crossing(a[0], a[1], a[2]);
            case "greatest": return s.greatest(a[0], a[1], a[2], a[3]);
            case "differs": return s.differs(a[0]);
            case "count": return s.count(a[0]);
            case "undo": return s.undo();
            case "save": return s.save(a[0]);
            case "restore": return s.restore(a[0]);
            default: throw new IllegalArgumentException(name);
        }
    }
}
