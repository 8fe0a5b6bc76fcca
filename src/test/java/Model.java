import java.util.ArrayDeque;
import java.util.ArrayList;
import java.util.Deque;
import java.util.List;
import java.util.Map;
import java.util.TreeMap;

/**
 * The document told a second time, in the slowest and plainest way: trees for right sides, a table
 * for faults, every break point by looking at every tick. Tests compare LagSolver with it.
 */
final class Model {
    static final int INVALID = -2000000001;
    static final int NOT_POSSIBLE = -2000000002;
    static final int LIMIT = -2000000003;
    static final int NOT_FOUND = -2000000004;

    /** A tree of a right side. */
    static final class Node {
        String kind;
        long number;
        int variable;
        int delay;
        Node a;
        Node b;

        Node(String kind) {
            this.kind = kind;
        }
    }

    static final class Step {
        int begin;
        int length;
        long[] x = new long[3];
        long[] k = new long[3];
        long[] y = new long[3];
        int rounds;
    }

    static final class State {
        Node[] rights = new Node[3];
        String[] texts = {"0", "0", "0"};
        int[] constants = new int[3];
        int[] parts = new int[3];
        List<TreeMap<Integer, Integer>> points =
                List.of(new TreeMap<>(), new TreeMap<>(), new TreeMap<>());
        int[] settings = {100, 1, 2};
        List<Step> steps = new ArrayList<>();

        State copy() {
            State c = new State();
            c.rights = rights.clone();
            c.texts = texts.clone();
            c.constants = constants.clone();
            c.parts = parts.clone();
            c.settings = settings.clone();
            for (int v = 0; v < 3; v++) {
                c.points.get(v).putAll(points.get(v));
            }
            c.steps = new ArrayList<>(steps);
            return c;
        }
    }

    private String text = "";
    private State now = new State();
    private final Deque<State> kept = new ArrayDeque<>();
    private final State[] slots = new State[2];

    // ---- the calls

    int type(int c) {
        if (c < 33 || c > 126) return INVALID;
        if (text.length() == 80) return LIMIT;
        text += (char) c;
        return text.length();
    }

    int wipe() {
        int had = text.length();
        text = "";
        return had;
    }

    int fault() {
        int f = faultOf(text);
        return f < 0 ? NOT_FOUND : f;
    }

    int right(int v) {
        if (v < 0 || v > 2) return INVALID;
        if (faultOf(text) >= 0) return NOT_POSSIBLE;
        record();
        now.texts[v] = text;
        now.rights[v] = new Trees(text).sum();
        now.steps.clear();
        int bits = bitsOf(text);
        text = "";
        return bits;
    }

    int delay(int d, int constant, int part) {
        if (d < 0 || d > 2 || constant < 0 || constant > 5000 || part < -900 || part > 900) return INVALID;
        record();
        int had = now.constants[d];
        now.constants[d] = constant;
        now.parts[d] = part;
        now.steps.clear();
        return had;
    }

    int point(int v, int time, int value) {
        if (v < 0 || v > 2 || time < -10000 || time > 0 || Math.abs((long) value) > 1000000) return INVALID;
        if (now.points.get(v).containsKey(time)) return NOT_POSSIBLE;
        if (now.points.get(v).size() == 6) return LIMIT;
        record();
        now.points.get(v).put(time, value);
        now.steps.clear();
        return now.points.get(v).size();
    }

    int clear(int v) {
        if (v < 0 || v > 2) return INVALID;
        record();
        int had = now.points.get(v).size();
        now.points.get(v).clear();
        now.steps.clear();
        return had;
    }

    int set(int what, int value) {
        if (what < 0 || what > 2) return INVALID;
        if (what == 0 && (value < 20 || value > 500)) return INVALID;
        if (what == 1 && (value < 0 || value > 4)) return INVALID;
        if (what == 2 && (value < 0 || value > 3)) return INVALID;
        record();
        int had = now.settings[what];
        now.settings[what] = value;
        now.steps.clear();
        return had;
    }

    int lag(int d, int time) {
        if (d < 0 || d > 2 || time < 0 || time > 8000) return INVALID;
        return (int) lagOf(now, d, time);
    }

    int breakAt(int index, int what) {
        if (index < 0 || what < 0 || what > 2) return INVALID;
        List<int[]> all = breaksOf(now);
        if (index >= all.size()) return NOT_FOUND;
        if (what == 2 && index == 0) return NOT_FOUND;
        return all.get(index)[what];
    }

    int solve(int ticks) {
        if (ticks < 1 || ticks > 2000) return INVALID;
        if (solved(now) + ticks > 8000) return LIMIT;
        record();
        advance(now, solved(now) + ticks, now.settings[0]);
        return solved(now);
    }

    int value(int v, int time) {
        if (v < 0 || v > 2 || time < -10000 || time > 8000) return INVALID;
        if (time > solved(now)) return NOT_FOUND;
        return Math.toIntExact(valueAt(now, v, time));
    }

    int slope(int v, int time) {
        if (v < 0 || v > 2 || time < -10000 || time > 8000) return INVALID;
        if (time > solved(now)) return NOT_FOUND;
        return Math.toIntExact(slopeAt(now, v, time));
    }

    int rightAt(int v, int time) {
        if (v < 0 || v > 2 || time < 0 || time > 8000) return INVALID;
        if (time > solved(now)) return NOT_FOUND;
        long[] names = {valueAt(now, 0, time), valueAt(now, 1, time), valueAt(now, 2, time)};
        return Math.toIntExact(work(now, now.rights[v], time, names, time, names));
    }

    int step(int step, int what) {
        if (step < 0 || what < 0 || what > 5) return INVALID;
        if (step >= now.steps.size()) return NOT_FOUND;
        Step s = now.steps.get(step);
        if (what == 0) return s.begin;
        if (what == 1) return s.length;
        if (what == 5) return s.rounds;
        return Math.toIntExact(s.k[what - 2]);
    }

    int crossing(int v, int level, int from) {
        if (v < 0 || v > 2 || Math.abs((long) level) > 1000000000 || from < 1 || from > 8000) return INVALID;
        for (int t = from; t <= solved(now); t++) {
            if (valueAt(now, v, t) >= level && valueAt(now, v, t - 1) < level) return t;
        }
        return NOT_FOUND;
    }

    int greatest(int v, int from, int to, int what) {
        if (v < 0 || v > 2 || from < 0 || from > 8000 || to < from || to > 8000 || what < 0 || what > 1) return INVALID;
        if (to > solved(now)) return NOT_FOUND;
        int time = from;
        for (int t = from; t <= to; t++) {
            if (valueAt(now, v, t) > valueAt(now, v, time)) time = t;
        }
        return what == 1 ? time : Math.toIntExact(valueAt(now, v, time));
    }

    int differs(int step) {
        if (step < 20 || step > 500) return INVALID;
        State other = now.copy();
        other.steps.clear();
        advance(other, solved(now), step);
        long most = 0;
        for (int v = 0; v < 3; v++) {
            most = Math.max(most, Math.abs(valueAt(now, v, solved(now)) - valueAt(other, v, solved(now))));
        }
        return (int) held(most);
    }

    int count(int what) {
        if (what < 0 || what > 14) return INVALID;
        if (what <= 2) return now.settings[what];
        if (what == 3) return solved(now);
        if (what == 4) return now.steps.size();
        if (what == 5) return breaksOf(now).size();
        if (what == 6) return text.length();
        if (what == 7) return kept.size();
        if (what <= 10) return now.points.get(what - 8).size();
        if (what <= 13) return now.parts[what - 11];
        return usedBits(now);
    }

    int undo() {
        if (kept.isEmpty()) return NOT_POSSIBLE;
        now = kept.removeLast();
        return kept.size();
    }

    int save(int slot) {
        if (slot < 0 || slot > 1) return INVALID;
        slots[slot] = now.copy();
        return solved(now);
    }

    int restore(int slot) {
        if (slot < 0 || slot > 1) return INVALID;
        if (slots[slot] == null) return NOT_POSSIBLE;
        record();
        now = slots[slot].copy();
        return solved(now);
    }

    private void record() {
        kept.addLast(now.copy());
        if (kept.size() > 4) kept.removeFirst();
    }

    // ---- faults: a stack of what is still to come. Capitals and signs must come; what stands in
    // OPTIONAL may also be left out.

    private static final String OPTIONAL = "sunabc.ef";

    static int faultOf(String text) {
        Deque<Character> due = new ArrayDeque<>();
        due.push('S');
        int open = 0;
        for (int i = 0; i < text.length(); i++) {
            char c = text.charAt(i);
            String next = null;
            while (next == null) {
                if (due.isEmpty()) return i;
                char d = due.pop();
                if (d == 'S') push(due, "Ts");
                else if (d == 'T') push(due, "Uu");
                else {
                    next = c == '(' && open == 6 ? null : after(d, c);
                    if (next == null && OPTIONAL.indexOf(d) < 0) return i;
                }
            }
            if (c == '(') open++;
            if (c == ')') open--;
            push(due, next);
        }
        for (char d : due) {
            if (OPTIONAL.indexOf(d) < 0) return text.length();
        }
        return -1;
    }

    /** What is still to come if c stands where d is due; null if it cannot. */
    private static String after(char d, char c) {
        boolean digit = c >= '0' && c <= '9';
        switch (d) {
            case 's':
                return c == '+' || c == '-' ? "Ts" : null;
            case 'u':
                return c == '*' || c == '/' ? "Uu" : null;
            case 'U':
                return digit ? "a." : c == 't' ? "" : c >= 'x' && c <= 'z' ? "n" : c == '-' ? "U"
                        : c == 'm' ? "M" : c == '(' ? "S)" : null;
            case 'a':
                return digit ? "b" : null;
            case 'b':
                return digit ? "c" : null;
            case 'c':
                return digit ? "" : null;
            case '.':
                return c == '.' ? "De" : null;
            case 'D':
                return digit ? "" : null;
            case 'e':
                return digit ? "f" : null;
            case 'f':
                return digit ? "" : null;
            case 'n':
                return c == '\'' ? "@E" : c == '@' ? "E" : null;
            case 'E':
                return c >= '0' && c <= '2' ? "" : null;
            case 'M':
                return c == 'i' ? "N(S,S)" : c == 'a' ? "X(S,S)" : null;
            case 'N':
                return c == 'n' ? "" : null;
            case 'X':
                return c == 'x' ? "" : null;
            default:
                return c == d ? "" : null;
        }
    }

    private static void push(Deque<Character> due, String next) {
        for (int i = next.length() - 1; i >= 0; i--) {
            due.push(next.charAt(i));
        }
    }

    static int bitsOf(String text) {
        int bits = 0;
        for (int d = 0; d < 3; d++) {
            if (text.contains("@" + d)) bits |= 1 << d;
        }
        return bits;
    }

    static int usedBits(State s) {
        return bitsOf(s.texts[0]) | bitsOf(s.texts[1]) | bitsOf(s.texts[2]);
    }

    /** Makes the tree of a text that has no fault. */
    static final class Trees {
        private final String text;
        private int at;

        Trees(String text) {
            this.text = text;
        }

        private char next() {
            return at < text.length() ? text.charAt(at) : 0;
        }

        Node sum() {
            Node left = term();
            while (next() == '+' || next() == '-') {
                Node n = new Node("" + text.charAt(at++));
                n.a = left;
                n.b = term();
                left = n;
            }
            return left;
        }

        private Node term() {
            Node left = unit();
            while (next() == '*' || next() == '/') {
                Node n = new Node("" + text.charAt(at++));
                n.a = left;
                n.b = unit();
                left = n;
            }
            return left;
        }

        private Node unit() {
            char c = text.charAt(at++);
            if (c == '-') {
                Node n = new Node("neg");
                n.a = unit();
                return n;
            }
            if (c == 't') return new Node("t");
            if (c == '(') {
                Node n = sum();
                at++;
                return n;
            }
            if (c == 'm') {
                Node n = new Node(text.substring(at - 1, at + 2));
                at += 3;
                n.a = sum();
                at++;
                n.b = sum();
                at++;
                return n;
            }
            if (c >= 'x') {
                Node n = new Node("name");
                n.variable = c - 'x';
                if (next() == '\'') {
                    n.kind = "slope";
                    at++;
                }
                if (next() == '@') {
                    if (n.kind.equals("name")) n.kind = "past";
                    n.delay = text.charAt(at + 1) - '0';
                    at += 2;
                }
                return n;
            }
            int begin = at - 1;
            while ((next() >= '0' && next() <= '9') || next() == '.') at++;
            Node n = new Node("number");
            n.number = new java.math.BigDecimal(text.substring(begin, at)).movePointRight(3).longValueExact();
            return n;
        }
    }

    // ---- the mathematics

    static long held(long n) {
        return n < -1000000000L ? -1000000000L : n > 1000000000L ? 1000000000L : n;
    }

    static long times(long a, long b) {
        return Math.multiplyExact(a, b);
    }

    static long over(long a, long b) {
        return b == 0 ? 0 : a / b;
    }

    static int solved(State s) {
        if (s.steps.isEmpty()) return 0;
        Step last = s.steps.get(s.steps.size() - 1);
        return last.begin + last.length;
    }

    static long lagOf(State s, int d, int t) {
        return Math.max(0, s.constants[d] + over(times(s.parts[d], t), 1000));
    }

    static List<int[]> breaksOf(State s) {
        Map<Integer, int[]> all = new TreeMap<>();
        all.put(0, new int[] {0, 0, -1});
        int bits = usedBits(s);
        for (int order = 0; order < s.settings[2]; order++) {
            for (int[] b : new ArrayList<>(all.values())) {
                if (b[1] != order) continue;
                for (int d = 0; d < 3; d++) {
                    if ((bits & (1 << d)) == 0) continue;
                    int t = b[0] + 1;
                    while (t <= 8000 && t - lagOf(s, d, t) < b[0]) t++;
                    if (t > 8000 || lagOf(s, d, t) == 0) continue;
                    int[] old = all.get(t);
                    if (old == null) all.put(t, new int[] {t, order + 1, d});
                    else if (old[1] == order + 1) old[2] = Math.min(old[2], d);
                }
            }
        }
        return new ArrayList<>(all.values());
    }

    static long historyValue(State s, int v, int t) {
        TreeMap<Integer, Integer> p = s.points.get(v);
        if (p.isEmpty()) return 0;
        if (t < p.firstKey()) return p.firstEntry().getValue();
        if (t >= p.lastKey()) return p.lastEntry().getValue();
        Map.Entry<Integer, Integer> a = p.floorEntry(t);
        Map.Entry<Integer, Integer> b = p.higherEntry(t);
        long rise = (long) b.getValue() - a.getValue();
        return a.getValue() + over(times(rise, t - a.getKey()), b.getKey() - a.getKey());
    }

    static long historySlope(State s, int v, int t) {
        TreeMap<Integer, Integer> p = s.points.get(v);
        if (p.isEmpty() || t < p.firstKey() || t >= p.lastKey()) return 0;
        Map.Entry<Integer, Integer> a = p.floorEntry(t);
        Map.Entry<Integer, Integer> b = p.higherEntry(t);
        return over(times((long) b.getValue() - a.getValue(), 1000), b.getKey() - a.getKey());
    }

    static Step stepTo(State s, int t) {
        for (Step step : s.steps) {
            if (t > step.begin && t <= step.begin + step.length) return step;
        }
        throw new IllegalStateException("no step to " + t);
    }

    static long valueAt(State s, int v, int t) {
        if (t <= 0) return historyValue(s, v, t);
        Step p = stepTo(s, t);
        long e = t - p.begin;
        long h = p.length;
        if (e == h) return p.y[v];
        long bend = p.y[v] - p.x[v] - over(times(p.k[v], h), 1000);
        return held(p.x[v] + over(times(p.k[v], e), 1000) + over(times(times(bend, e), e), h * h));
    }

    static long slopeAt(State s, int v, int t) {
        if (t <= 0) return historySlope(s, v, t);
        Step p = stepTo(s, t);
        long e = t - p.begin;
        long h = p.length;
        long bend = p.y[v] - p.x[v] - over(times(p.k[v], h), 1000);
        return held(p.k[v] + over(times(times(2000, bend), e), h * h));
    }

    static void advance(State s, int target, int stepLength) {
        List<int[]> breaks = breaksOf(s);
        while (solved(s) < target) {
            int t = solved(s);
            int h = Math.min(stepLength, target - t);
            for (int[] b : breaks) {
                if (b[0] > t) h = Math.min(h, b[0] - t);
            }
            Step p = new Step();
            p.begin = t;
            p.length = h;
            for (int v = 0; v < 3; v++) p.x[v] = valueAt(s, v, t);
            for (int v = 0; v < 3; v++) p.k[v] = work(s, s.rights[v], t, p.x, t, p.x);
            long[] g = new long[3];
            for (int v = 0; v < 3; v++) g[v] = held(p.x[v] + over(times(p.k[v], h), 1000));
            boolean shortLag = false;
            for (int d = 0; d < 3; d++) {
                long lag = lagOf(s, d, t + h);
                if ((usedBits(s) & (1 << d)) != 0 && lag < h && lag != 0) shortLag = true;
            }
            p.rounds = shortLag ? s.settings[1] : 0;
            for (int round = 0; round <= p.rounds; round++) {
                long[] y = new long[3];
                for (int v = 0; v < 3; v++) {
                    long l = work(s, s.rights[v], t + h, g, t, p.x);
                    y[v] = held(p.x[v] + over(times(p.k[v] + l, h), 2000));
                }
                g = y;
            }
            p.y = g;
            s.steps.add(p);
        }
    }

    /** Works out a tree at a time with names; behind the time t the line from x to names is used. */
    static long work(State s, Node n, int time, long[] names, int t, long[] x) {
        if (n == null) return 0;
        int u = (int) (time - lagOf(s, n.delay, time));
        long h = time - t;
        switch (n.kind) {
            case "number":
                return n.number;
            case "t":
                return time;
            case "name":
                return names[n.variable];
            case "past":
                if (u <= t) return valueAt(s, n.variable, u);
                return held(x[n.variable] + over(times(names[n.variable] - x[n.variable], u - t), h));
            case "slope":
                if (u <= t) return slopeAt(s, n.variable, u);
                return held(over(times(names[n.variable] - x[n.variable], 1000), h));
            default:
                break;
        }
        long a = work(s, n.a, time, names, t, x);
        if (n.kind.equals("neg")) return held(-a);
        long b = work(s, n.b, time, names, t, x);
        switch (n.kind) {
            case "+":
                return held(a + b);
            case "-":
                return held(a - b);
            case "*":
                return held(over(times(a, b), 1000));
            case "/":
                return held(over(times(a, 1000), b));
            case "min":
                return Math.min(a, b);
            case "max":
                return Math.max(a, b);
            default:
                throw new IllegalStateException(n.kind);
        }
    }
}
