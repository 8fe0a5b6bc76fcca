import java.lang.management.ManagementFactory;

/** The dearest calls, 512 of them: they make no new objects beyond the rows of the states. */
public final class RoomTest {
    private static final long MAX_BYTES = 2000000;

    public static void main(String[] args) {
        Tally tally = new Tally();
        com.sun.management.ThreadMXBean threads =
                (com.sun.management.ThreadMXBean) ManagementFactory.getThreadMXBean();
        run(new LagSolver());
        long before = threads.getCurrentThreadAllocatedBytes();
        LagSolver solver = new LagSolver();
        int end = run(solver);
        long bytes = threads.getCurrentThreadAllocatedBytes() - before;
        tally.part("room");
        tally.due("the time up to which it is solved", end, 8000);
        tally.due("steps", solver.count(4) > 400 ? 1 : 0, 1);
        if (bytes > MAX_BYTES) {
            tally.fail("a run took " + bytes + " bytes");
        }
        tally.end("RoomTest");
    }

    private static int run(LagSolver s) {
        int calls = 0;
        String[] texts = {"x'@0+y'@1-z'@2*x@0", "-y@1+x@2-y'@2/9+min(x'@0,x'@1)", "x@1+y@2-z'@0+t"};
        for (int v = 0; v < 3; v++) {
            for (char c : texts[v].toCharArray()) {
                s.type(c);
                calls++;
            }
            s.right(v);
            s.delay(v, 7 + 10 * v, v);
            s.point(v, -v, 1000);
            calls += 3;
        }
        s.set(0, 20);
        s.set(1, 4);
        s.set(2, 3);
        for (int n = 0; n < 4; n++) {
            s.solve(2000);
        }
        s.save(0);
        s.save(1);
        calls += 9;
        for (; calls < 511; calls++) {
            if (calls % 4 == 0) {
                s.differs(20);
            } else if (calls % 4 == 1) {
                s.crossing(0, 1000000000, 1);
            } else if (calls % 4 == 2) {
                s.greatest(1, 0, 8000, 0);
            } else {
                s.restore(calls % 2);
            }
        }
        return s.count(3);
    }
}
