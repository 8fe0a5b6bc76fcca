import java.lang.management.ManagementFactory;

/** The room that 512 calls take: one object makes its rows but once, and each call makes few. */
public final class RoomTest {
    private static final long MAX_BYTES = 2000000;
    // A run has room for 7.3 million elements; most of them are whole numbers of 4 bytes.
    private static final long MAX_BYTES_OF_A_RUN = 7300000L * 4;
    private static final com.sun.management.ThreadMXBean THREADS =
            (com.sun.management.ThreadMXBean) ManagementFactory.getThreadMXBean();

    public static void main(String[] args) {
        Tally tally = new Tally();
        dearestCalls(tally);
        manyObjects(tally);
        tally.end("RoomTest");
    }

    /** Each call makes the most that it can: a new object, or a state of one that has none yet. */
    private static void manyObjects(Tally tally) {
        tally.part("many objects");
        for (int each = 1; each <= 8; each++) {
            long before = THREADS.getCurrentThreadAllocatedBytes();
            for (int calls = 0; calls < 512; calls += each) {
                firstCalls(new LagSolver(), each - 1);
            }
            long bytes = THREADS.getCurrentThreadAllocatedBytes() - before;
            tally.due("room for objects with " + each + " calls: " + bytes, bytes <= MAX_BYTES_OF_A_RUN ? 1 : 0, 1);
        }
    }

    private static void firstCalls(LagSolver s, int calls) {
        for (int n = 0; n < calls; n++) {
            if (n < 4) {
                s.solve(1);
            } else if (n < 6) {
                s.save(n - 4);
            } else {
                s.differs(20);
            }
        }
    }

    private static void dearestCalls(Tally tally) {
        run(new LagSolver());
        long before = THREADS.getCurrentThreadAllocatedBytes();
        LagSolver solver = new LagSolver();
        int end = run(solver);
        long bytes = THREADS.getCurrentThreadAllocatedBytes() - before;
        tally.part("dearest calls");
        tally.due("the time up to which it is solved", end, 8000);
        tally.due("steps", solver.count(4) > 400 ? 1 : 0, 1);
        if (bytes > MAX_BYTES) {
            tally.fail("a run took " + bytes + " bytes");
        }
    }

    private static int run(LagSolver s) {
        int calls = 0;
        String[] texts = {"x'@0+y'@1-z'@2*x@0", "-y@1+x@2-y'@2/9+min(x'@0,x'@1)", "x@1+y@2-z'@0+t"};
        for (int v = 0; v < 3; v++) {
            for (char c : texts[v].toCharArray()) {
                s.type(c);
                calls++;
            }
            s.right(v);
            s.delay(v, 7 + 10 * v, v);
            s.point(v, -v, 1000);
            calls += 3;
        }
        s.set(0, 20);
        s.set(1, 4);
        s.set(2, 3);
        for (int n = 0; n < 4; n++) {
            s.solve(2000);
        }
        s.save(0);
        s.save(1);
        calls += 9;
        for (; calls < 511; calls++) {
            if (calls % 4 == 0) {
                s.differs(20);
            } else if (calls % 4 == 1) {
                s.crossing(0, 1000000000, 1);
            } else if (calls % 4 == 2) {
                s.greatest(1, 0, 8000, 0);
            } else {
                s.restore(calls % 2);
            }
        }
        return s.count(3);
    }
}
