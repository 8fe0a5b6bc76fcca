/** The promises of the document, one method each, with answers that were worked out by hand. */
public final class PromisesTest {
    private static final int INVALID = LagSolver.INVALID_ARGUMENT;
    private static final int NOT_POSSIBLE = LagSolver.NOT_POSSIBLE;
    private static final int LIMIT = LagSolver.LIMIT_REACHED;
    private static final int NOT_FOUND = LagSolver.NOT_FOUND;
    private static final int MIN = Integer.MIN_VALUE;
    private static final int MAX = Integer.MAX_VALUE;

    private static final Tally TALLY = new Tally();

    public static void main(String[] args) {
        constants();
        promise1();
        promise2();
        promise3();
        promise4();
        promise5();
        promise5Working();
        promise5Holding();
        promise6();
        promise7();
        promise8();
        promise9();
        promise10();
        promise11();
        promise11Ways();
        promise12();
        promise12Steps();
        promise12ShortLags();
        promise12SlopeNow();
        promise13();
        promise13Between();
        promise14();
        promise15();
        promise16();
        promise17();
        promise18();
        promise19();
        promise20();
        promise21();
        promise22();
        promise23();
        changes();
        manySteps();
        TALLY.end("PromisesTest");
    }

    private static void part(String name) {
        TALLY.part(name);
    }

    private static void due(String call, long got, long want) {
        TALLY.due(call, got, want);
    }

    private static void type(LagSolver s, String text) {
        for (int i = 0; i < text.length(); i++) {
            s.type(text.charAt(i));
        }
    }

    private static int right(LagSolver s, int variable, String text) {
        s.wipe();
        type(s, text);
        return s.right(variable);
    }

    private static int faultOf(String text) {
        LagSolver s = new LagSolver();
        type(s, text);
        return s.fault();
    }

    /** The right side of z at the time 0 where x is 7 and y is -2. */
    private static int worked(String text) {
        LagSolver s = new LagSolver();
        s.point(0, 0, 7000);
        s.point(1, 0, -2000);
        right(s, 2, text);
        return s.rightAt(2, 0);
    }

    private static String repeat(String text, int times) {
        return text.repeat(times);
    }

    private static void constants() {
        part("constants");
        due("INVALID_ARGUMENT", INVALID, -2000000001L);
        due("NOT_POSSIBLE", NOT_POSSIBLE, -2000000002L);
        due("LIMIT_REACHED", LIMIT, -2000000003L);
        due("NOT_FOUND", NOT_FOUND, -2000000004L);
    }

    private static void promise1() {
        part("promise 1");
        LagSolver s = new LagSolver();
        int[] counts = {100, 1, 2, 0, 0, 1, 0, 0, 0, 0, 0, 0, 0, 0, 0};
        for (int what = 0; what < counts.length; what++) {
            due("count " + what, s.count(what), counts[what]);
        }
        for (int n = 0; n < 3; n++) {
            due("rightAt", s.rightAt(n, 0), 0);
            due("lag", s.lag(n, 8000), 0);
            due("value", s.value(n, -10000), 0);
            due("value", s.value(n, 0), 0);
            due("slope", s.slope(n, 0), 0);
            due("delay", s.delay(n, 0, 0), 0);
        }
        s = new LagSolver();
        due("fault", s.fault(), 0);
        due("undo", s.undo(), NOT_POSSIBLE);
        due("restore 0", s.restore(0), NOT_POSSIBLE);
        due("restore 1", s.restore(1), NOT_POSSIBLE);
        due("solve", s.solve(250), 250);
        due("value", s.value(2, 250), 0);
        due("steps", s.count(4), 3);
    }

    private static void promise2() {
        part("promise 2");
        LagSolver s = new LagSolver();
        due("33", s.type(33), 1);
        due("126", s.type(126), 2);
        int[] wrong = {32, 127, 0, -1, -33, 128, 33 + 256, MIN, MAX};
        for (int c : wrong) {
            due("type " + c, s.type(c), INVALID);
        }
        due("length", s.count(6), 2);
        for (int n = 3; n <= 80; n++) {
            due("type", s.type('1'), n);
        }
        due("full", s.type('1'), LIMIT);
        due("full", s.type('1'), LIMIT);
        due("full and wrong", s.type(32), INVALID);
        due("length", s.count(6), 80);
        due("is no change", s.count(7), 0);
        s = new LagSolver();
        type(s, "x+1");
        s.solve(10);
        type(s, "*t");
        due("solved", s.count(3), 10);
        due("undo", s.undo(), 0);
        due("the text is not in the state", s.count(6), 5);
    }

    private static void promise3() {
        part("promise 3");
        LagSolver s = new LagSolver();
        due("wipe", s.wipe(), 0);
        type(s, "x+y");
        due("wipe", s.wipe(), 3);
        due("wipe", s.wipe(), 0);
        due("length", s.count(6), 0);
        due("fault", s.fault(), 0);
        type(s, repeat("1", 90));
        due("wipe", s.wipe(), 80);
        due("type", s.type('t'), 1);
        due("fault", s.fault(), NOT_FOUND);
        due("is no change", s.count(7), 0);
    }

    private static void promise4() {
        part("promise 4");
        String[] good = {
            "x", "y", "z", "t", "0", "0000", "1234", "9999.999", "1.5", "1.25", "1.125", "00.5",
            "x@0", "y@1", "z@2", "x'@0", "z'@2", "--x", "x--y", "x*-y", "-x*-y/-t", "-(-x)", "(x)",
            "x+y-z*t/2", "min(x,y)", "max(x+1,y-1)", "max(min(1,2),min(x,y@0))", "-min(1,2)",
            "((((((x))))))", "min(min(min(min(min(min(1,2),2),2),2),2),2)", "(x)+(y)*(z)/(t)",
            "max(1,max(1,max(1,max(1,max(1,max(1,2))))))", "(((((min(1,2))))))+((((((1))))))",
            repeat("-", 79) + "x", repeat("x+", 39) + "10"};
        for (String text : good) {
            due("fault of " + text, faultOf(text), NOT_FOUND);
        }
        Object[][] bad = {
            {"", 0}, {"w", 0}, {"X", 0}, {"xy", 1}, {"x1", 1}, {"1x", 1}, {"12345", 4}, {"0.", 2},
            {".5", 0}, {"1.2345", 5}, {"1.x", 2}, {"1..2", 2}, {"1.2.3", 3}, {"1234.5x", 6},
            {"x@", 2}, {"x@3", 2}, {"x@9", 2}, {"x@-", 2}, {"x@x", 2}, {"x@01", 3}, {"x@0@1", 3},
            {"x'", 2}, {"x'0", 2}, {"x'+", 2}, {"x''@0", 2}, {"x'@", 3}, {"x'@3", 3}, {"x@0'", 3},
            {"t@0", 1}, {"t'@0", 1}, {"1@0", 1}, {"(x)@0", 3}, {"+x", 0}, {"x+", 2}, {"x++y", 2},
            {"x*", 2}, {"x*/y", 2}, {"x**y", 2}, {"-", 1}, {"-+x", 1}, {"--", 2}, {"()", 1},
            {"(x", 2}, {"(x+", 3}, {"(x))", 3}, {"x)", 1}, {"(x,y)", 2}, {"(x)(y)", 3},
            {"m", 1}, {"mi", 2}, {"ma", 2}, {"min", 3}, {"max", 3}, {"mix", 2}, {"man", 2},
            {"mn", 1}, {"min(", 4}, {"minx", 3}, {"min(x", 5}, {"min(x)", 5}, {"min(x,", 6},
            {"min(x,y", 7}, {"min(x,y,z)", 7}, {"min(,x)", 4}, {"min(x,)", 6}, {"min()", 4},
            {"(((((((", 6}, {"(((((((x)))))))", 6}, {"((((((min(1,2)", 9}, {"((((((-(x", 7},
            {"((((((x)))))", 12}, {"min(1,((((((x", 11}, {"min(((((((x", 9}, {"x,y", 1}, {"x=y", 1}, {"!", 0}, {"~", 0},
            {"tt", 1}, {"t1", 1}, {"1t", 1}, {"x+y+z)", 5}, {"x+?y", 2}};
        for (Object[] row : bad) {
            due("fault of " + row[0], faultOf((String) row[0]), (Integer) row[1]);
        }
        due("fault of 80 signs", faultOf(repeat("-", 80)), 80);
        due("fault of 80 signs", faultOf(repeat("x+", 40)), 80);
        LagSolver s = new LagSolver();
        type(s, "x+?");
        due("fault", s.fault(), 2);
        due("fault again", s.fault(), 2);
        due("text stays", s.count(6), 3);
        due("is no change", s.count(7), 0);
    }

    private static void promise5() {
        part("promise 5");
        LagSolver s = new LagSolver();
        due("empty text", s.right(0), NOT_POSSIBLE);
        due("wrong and empty", s.right(3), INVALID);
        due("wrong", s.right(-1), INVALID);
        due("wrong", s.right(MIN), INVALID);
        due("wrong", s.right(MAX), INVALID);
        type(s, "x@0");
        due("wrong variable", s.right(3), INVALID);
        due("text stays", s.count(6), 3);
        due("right", s.right(0), 1);
        due("text is empty", s.count(6), 0);
        due("is a change", s.count(7), 1);
        due("y@1", right(s, 1, "y@1"), 2);
        due("z@2", right(s, 2, "z@2"), 4);
        due("all delays", s.count(14), 7);
        due("only its own", right(s, 1, "x+y"), 0);
        due("all delays", s.count(14), 5);
        due("slopes count", right(s, 0, "x'@0-0*z'@2"), 5);
        due("each once", right(s, 0, "x@1+y@1+z'@1"), 2);
        due("all", right(s, 0, "min(x@0,y@1)*z@2"), 7);
        type(s, "x+");
        due("a fault", s.right(0), NOT_POSSIBLE);
        due("text stays", s.count(6), 2);
        due("kept states", s.count(7), 4);
        s = new LagSolver();
        s.solve(100);
        right(s, 0, "1");
        due("not solved", s.count(3), 0);
        due("no steps", s.count(4), 0);
        s.solve(100);
        due("slope 1", s.value(0, 100), 100);
        right(s, 0, "2");
        s.solve(100);
        due("slope 2", s.value(0, 100), 200);
        due("others stay 0", s.value(1, 100), 0);
    }

    private static void promise5Working() {
        part("right sides");
        Object[][] rows = {
            {"0", 0}, {"12", 12000}, {"1.5", 1500}, {"0012.05", 12050}, {"9999.999", 9999999},
            {"1.25", 1250}, {"1.125", 1125}, {"0.001", 1}, {"x", 7000}, {"y", -2000}, {"z", 0},
            {"x+y", 5000}, {"x-y", 9000}, {"x*y", -14000}, {"x/y", -3500}, {"y/x", -285},
            {"7-2-1", 4000}, {"7-(2-1)", 6000}, {"8/2/2", 2000}, {"8/(2/2)", 8000}, {"1/3*3", 999},
            {"1*3/3", 1000}, {"2+3*4", 14000}, {"2*3+4*5", 26000}, {"(2+3)*4", 20000}, {"-2*3", -6000},
            {"2*-3", -6000}, {"--x", 7000}, {"---x", -7000}, {"-x+y", -9000}, {"1/0", 0}, {"-5/0", 0},
            {"x/z", 0}, {"0/0", 0}, {"-1/3", -333}, {"(0-2)/3", -666}, {"2/-3", -666},
            {"0.001*0.5", 0}, {"-0.001*0.999", 0}, {"0.003*0.5", 1}, {"-0.003*0.5", -1},
            {"min(x,y)", -2000}, {"max(x,y)", 7000}, {"min(2,1)", 1000}, {"max(1,2)", 2000},
            {"min(1,1)", 1000}, {"min(x,y)*max(x,y)", -14000}, {"-max(1,2)+5", 3000},
            {"min(1+1,3-2)", 1000}, {"t", 0}, {"x@0", 7000}, {"x'@0", 0},
            {"((((((x+1))))))*2", 16000}};
        for (Object[] row : rows) {
            due((String) row[0], worked((String) row[0]), (Integer) row[1]);
        }
        LagSolver s = new LagSolver();
        right(s, 0, "t");
        s.solve(20);
        due("t at 0", s.rightAt(0, 0), 0);
        due("t at 17", s.rightAt(0, 17), 17);
        due("t at 20", s.rightAt(0, 20), 20);
        due("no rest of a longer text", right(s, 1, "1+1+1+1+1+1") + right(s, 1, "2") + s.rightAt(1, 0), 2000);
        s = new LagSolver();
        right(s, 0, repeat("(", 5) + repeat("-", 60) + "3" + repeat(")", 5));
        due("60 negatives", s.rightAt(0, 0), 3000);
        due("40 sums", right(s, 0, repeat("1+", 39) + "11") + s.rightAt(0, 0), 50000);
    }

    private static void promise5Holding() {
        part("holding");
        Object[][] rows = {
            {"9999*9999", 1000000000}, {"-9999*9999", -1000000000}, {"1000*1000", 1000000000},
            {"999*1001", 999999000}, {"1000*1000+0.001", 1000000000},
            {"-1000*1000-0.001", -1000000000}, {"9999*9999-9999", 990001000},
            {"9999*9999*0.5", 500000000}, {"9999/0.001", 1000000000}, {"-9999/0.001", -1000000000},
            {"1000/0.001", 1000000000}, {"999.999/0.001", 999999000},
            {"9999*9999+9999*9999-9999*9999", 0}, {"9999*9999*(9999*9999)", 1000000000},
            {"9999*9999/(9999*9999)", 1000}, {"1/(9999*9999)", 0}};
        for (Object[] row : rows) {
            due((String) row[0], worked((String) row[0]), (Integer) row[1]);
        }
        // The slope of a history is not held, nor what is a slope alone.
        LagSolver s = new LagSolver();
        s.point(0, -1, -1000000);
        s.point(0, 0, 1000000);
        s.delay(1, 1, 0);
        due("slope", s.slope(0, -1), 2000000000);
        right(s, 1, "x'@1");
        due("a slope alone", s.rightAt(1, 0), 2000000000);
        right(s, 1, "min(x'@1,x'@1)");
        due("min", s.rightAt(1, 0), 2000000000);
        right(s, 1, "x'@1+0");
        due("a sum", s.rightAt(1, 0), 1000000000);
        right(s, 1, "-x'@1");
        due("a negative", s.rightAt(1, 0), -1000000000);
        right(s, 1, "--x'@1");
        due("two negatives", s.rightAt(1, 0), 1000000000);
        right(s, 1, "x'@1*1");
        due("a product", s.rightAt(1, 0), 1000000000);
        right(s, 1, "x'@1/x'@1");
        due("a quotient", s.rightAt(1, 0), 1000);
        right(s, 1, "x'@1*x'@1");
        due("a great product", s.rightAt(1, 0), 1000000000);
        // Values are held: the slope is 1000000000, for 2000 ticks.
        s = new LagSolver();
        right(s, 0, "9999*9999");
        right(s, 1, "-9999*9999");
        s.set(0, 500);
        s.solve(2000);
        due("500", s.value(0, 500), 500000000);
        due("1000", s.value(0, 1000), 1000000000);
        due("2000", s.value(0, 2000), 1000000000);
        due("-2000", s.value(1, 2000), -1000000000);
        due("not held at 999", s.value(0, 999), 999000000);
    }

    private static void promise6() {
        part("promise 6");
        LagSolver s = new LagSolver();
        due("delay", s.delay(0, 5000, 900), 0);
        due("delay", s.delay(0, 0, -900), 5000);
        due("delay", s.delay(0, 17, 0), 0);
        due("delay", s.delay(0, 17, 1), 17);
        due("other", s.delay(1, 3, 2), 0);
        due("other", s.delay(2, 4, 3), 0);
        due("part", s.count(11), 1);
        due("part", s.count(12), 2);
        due("part", s.count(13), 3);
        due("kept", s.count(7), 4);
        int[][] wrong = {
            {-1, 0, 0}, {3, 0, 0}, {0, -1, 0}, {0, 5001, 0}, {0, 0, -901}, {0, 0, 901}, {MIN, 0, 0},
            {MAX, 0, 0}, {0, MIN, 0}, {0, MAX, 0}, {0, 0, MIN}, {0, 0, MAX}};
        s = new LagSolver();
        s.solve(10);
        for (int[] row : wrong) {
            due("delay", s.delay(row[0], row[1], row[2]), INVALID);
        }
        due("nothing changed", s.count(3), 10);
        due("nothing kept", s.count(7), 1);
        s.delay(2, 1, 1);
        due("not solved", s.count(3), 0);
        due("kept", s.count(7), 2);
    }

    private static void promise7() {
        part("promise 7");
        LagSolver s = new LagSolver();
        due("first", s.point(0, -10000, 1000000), 1);
        due("second", s.point(0, 0, -1000000), 2);
        due("again", s.point(0, 0, 5), NOT_POSSIBLE);
        due("again", s.point(0, -10000, 5), NOT_POSSIBLE);
        due("of another", s.point(1, 0, 5), 1);
        due("third", s.point(0, -5, 7), 3);
        due("fourth", s.point(0, -1, 7), 4);
        due("fifth", s.point(0, -2, 7), 5);
        due("sixth", s.point(0, -9999, 7), 6);
        due("seventh", s.point(0, -3, 7), LIMIT);
        due("seventh at a known time", s.point(0, -5, 7), NOT_POSSIBLE);
        due("seventh and wrong", s.point(0, 1, 7), INVALID);
        due("points", s.count(8), 6);
        due("points", s.count(9), 1);
        due("points", s.count(10), 0);
        int[][] wrong = {
            {-1, 0, 0}, {3, 0, 0}, {2, 1, 0}, {2, -10001, 0}, {2, 0, 1000001}, {2, 0, -1000001},
            {MIN, 0, 0}, {MAX, 0, 0}, {2, MIN, 0}, {2, MAX, 0}, {2, 0, MIN}, {2, 0, MAX}};
        s = new LagSolver();
        s.solve(10);
        for (int[] row : wrong) {
            due("point", s.point(row[0], row[1], row[2]), INVALID);
        }
        due("nothing changed", s.count(3) + s.count(10), 10);
        due("nothing kept", s.count(7), 1);
        s.point(2, -7, 70);
        due("not solved", s.count(3), 0);
        due("kept", s.count(7), 2);
        // Points are told by time, whatever the order of the calls.
        s.point(2, -3, 30);
        s.point(2, -9, 90);
        s.point(2, -5, 20);
        int[] values = {90, 90, 80, 70, 45, 20, 25, 30, 30, 30, 30};
        for (int n = 0; n < values.length; n++) {
            due("value at " + (n - 10), s.value(2, n - 10), values[n]);
        }
    }

    private static void promise8() {
        part("promise 8");
        LagSolver s = new LagSolver();
        due("clear none", s.clear(0), 0);
        due("is a change", s.count(7), 1);
        s.point(0, 0, 5);
        s.point(0, -1, 6);
        s.point(1, 0, 7);
        s.solve(10);
        due("wrong", s.clear(-1), INVALID);
        due("wrong", s.clear(3), INVALID);
        due("wrong", s.clear(MAX), INVALID);
        due("nothing changed", s.count(3), 10);
        due("clear", s.clear(0), 2);
        due("not solved", s.count(3), 0);
        due("points", s.count(8), 0);
        due("points", s.count(9), 1);
        due("value", s.value(0, 0), 0);
        due("value", s.value(0, -1), 0);
        due("value", s.value(1, 0), 7);
        due("clear", s.clear(0), 0);
        due("a point again", s.point(0, -1, 8), 1);
        due("value", s.value(0, 0), 8);
    }

    private static void promise9() {
        part("promise 9");
        LagSolver s = new LagSolver();
        int[][] good = {{0, 20, 500, 100}, {1, 0, 4, 1}, {2, 0, 3, 2}};
        for (int[] row : good) {
            due("least", s.set(row[0], row[1]), row[3]);
            due("most", s.set(row[0], row[2]), row[1]);
            due("is", s.count(row[0]), row[2]);
            due("less", s.set(row[0], row[1] - 1), INVALID);
            due("more", s.set(row[0], row[2] + 1), INVALID);
            due("min", s.set(row[0], MIN), INVALID);
            due("max", s.set(row[0], MAX), INVALID);
            due("is", s.count(row[0]), row[2]);
        }
        due("kept", s.count(7), 4);
        due("wrong", s.set(-1, 1), INVALID);
        due("wrong", s.set(3, 1), INVALID);
        due("wrong", s.set(MIN, 100), INVALID);
        due("wrong", s.set(-1, 0), INVALID);
        due("wrong", s.set(3, 0), INVALID);
        due("wrong", s.set(4, 0), INVALID);
        s.solve(10);
        s.set(3, 2);
        due("solved", s.count(3), 10);
        s.set(1, 4);
        due("set to the same", s.count(3), 0);
        s.solve(10);
        s.set(2, 0);
        due("not solved", s.count(3), 0);
    }

    private static void promise10() {
        part("promise 10");
        LagSolver s = new LagSolver();
        s.delay(0, 250, 0);
        s.delay(1, 100, 500);
        s.delay(2, 10, -3);
        due("lag", s.lag(0, 0), 250);
        due("lag", s.lag(0, 8000), 250);
        due("lag", s.lag(1, 0), 100);
        due("lag", s.lag(1, 1), 100);
        due("lag", s.lag(1, 2), 101);
        due("lag", s.lag(1, 8000), 4100);
        due("lag", s.lag(2, 0), 10);
        due("lag", s.lag(2, 333), 10);
        due("lag", s.lag(2, 334), 9);
        due("lag", s.lag(2, 3000), 1);
        due("lag", s.lag(2, 3333), 1);
        due("lag", s.lag(2, 3334), 0);
        due("lag", s.lag(2, 8000), 0);
        s.delay(2, 5000, 900);
        due("lag", s.lag(2, 8000), 12200);
        int[][] wrong = {{-1, 0}, {3, 0}, {0, -1}, {0, 8001}, {MIN, 0}, {MAX, 0}, {0, MIN}, {0, MAX}};
        for (int[] row : wrong) {
            due("lag", s.lag(row[0], row[1]), INVALID);
        }
    }

    private static void breaks(LagSolver s, int[]... rows) {
        due("break points", s.count(5), rows.length);
        for (int n = 0; n < rows.length; n++) {
            due("time of " + n, s.breakAt(n, 0), rows[n][0]);
            due("order of " + n, s.breakAt(n, 1), rows[n][1]);
            due("delay of " + n, s.breakAt(n, 2), n == 0 ? NOT_FOUND : rows[n][2]);
        }
        due("behind the last", s.breakAt(rows.length, 0), NOT_FOUND);
        due("behind the last", s.breakAt(MAX, 2), NOT_FOUND);
    }

    private static void promise11() {
        part("promise 11");
        LagSolver s = new LagSolver();
        due("wrong", s.breakAt(-1, 0), INVALID);
        due("wrong", s.breakAt(MIN, 0), INVALID);
        due("wrong", s.breakAt(0, -1), INVALID);
        due("wrong", s.breakAt(0, 3), INVALID);
        due("wrong", s.breakAt(50, 3), INVALID);
        due("not so many", s.breakAt(1, 0), NOT_FOUND);
        s.delay(0, 250, 0);
        breaks(s, new int[] {0, 0, 0});
        right(s, 1, "x@0");
        breaks(s, new int[] {0, 0}, new int[] {250, 1, 0}, new int[] {500, 2, 0});
        s.set(2, 0);
        breaks(s, new int[] {0, 0});
        s.set(2, 1);
        breaks(s, new int[] {0, 0}, new int[] {250, 1, 0});
        s.set(2, 3);
        breaks(s, new int[] {0, 0}, new int[] {250, 1, 0}, new int[] {500, 2, 0}, new int[] {750, 3, 0});
        right(s, 1, "0*x'@0");
        due("used by a slope", s.count(5), 4);
        right(s, 1, "x@1");
        breaks(s, new int[] {0, 0});
        // The lag of 1 is 0 up to the time 999, so 1 is a time at which it is 0.
        s.delay(1, 0, 1);
        breaks(s, new int[] {0, 0});
        // The lag 1 - t / 1000 is 1 at the times 1 to 3.
        s.delay(1, 1, -1);
        breaks(s, new int[] {0, 0}, new int[] {1, 1, 1}, new int[] {2, 2, 1}, new int[] {3, 3, 1});
        s.delay(1, 4000, 0);
        breaks(s, new int[] {0, 0}, new int[] {4000, 1, 1}, new int[] {8000, 2, 1});
        s.delay(1, 4001, 0);
        breaks(s, new int[] {0, 0}, new int[] {4001, 1, 1});
        // t - 100 - t / 2 is 0 first at 199, 199 at 597, 597 at 1393.
        s.delay(1, 100, 500);
        breaks(s, new int[] {0, 0}, new int[] {199, 1, 1}, new int[] {597, 2, 1}, new int[] {1393, 3, 1});
        // t - 5000 + 0.9 t is 0 at 2632 (lag 5000 - 2368 = 2632).
        s.delay(1, 5000, -900);
        due("time", s.breakAt(1, 0), 2632);
        // From 2632: t - 5000 + 0.9 t is at least 2632 at 4017 (lag 1385).
        due("time", s.breakAt(2, 0), 4017);
        // From 4017: 4746 - 5000 + 4271 = 4017.
        due("time", s.breakAt(3, 0), 4746);
        // A lag that is 0 where it would be reached: 5 - t is 0 from 5000 on.
        s.delay(1, 4500, -900);
        due("points", s.count(5), 4);
        due("undo", s.undo() >= 0 ? s.breakAt(1, 0) : -1, 2632);
    }

    private static void promise11Ways() {
        part("promise 11, several ways");
        LagSolver s = new LagSolver();
        right(s, 0, "x@2+y@0");
        s.delay(0, 100, 0);
        s.delay(2, 200, 0);
        // 200 is of the order 1 by the delay 2, though of 2 by the delay 0; 300 by both ways.
        breaks(s, new int[] {0, 0}, new int[] {100, 1, 0}, new int[] {200, 1, 2}, new int[] {300, 2, 0},
                new int[] {400, 2, 2});
        s.set(2, 3);
        breaks(s, new int[] {0, 0}, new int[] {100, 1, 0}, new int[] {200, 1, 2}, new int[] {300, 2, 0},
                new int[] {400, 2, 2}, new int[] {500, 3, 0}, new int[] {600, 3, 2});
        s.set(2, 1);
        s.delay(0, 200, 0);
        breaks(s, new int[] {0, 0}, new int[] {200, 1, 0});
        // 300 = 100 + 200 comes from 100 by the delay 2 first, then from 200 by the delay 0.
        s.set(2, 2);
        right(s, 0, "x@0+x@1+x@2");
        s.delay(0, 100, 0);
        s.delay(1, 200, 0);
        s.delay(2, 5000, 0);
        breaks(s, new int[] {0, 0}, new int[] {100, 1, 0}, new int[] {200, 1, 1}, new int[] {300, 2, 0},
                new int[] {400, 2, 1}, new int[] {5000, 1, 2}, new int[] {5100, 2, 0}, new int[] {5200, 2, 1});
        s.set(2, 3);
        s.delay(0, 1000, 0);
        s.delay(1, 110, 0);
        s.delay(2, 12, 0);
        due("20 sums of up to three delays", s.count(5), 20);
        int last = -1;
        for (int n = 0; n < 20; n++) {
            due("ascending", s.breakAt(n, 0) > last ? 1 : 0, 1);
            last = s.breakAt(n, 0);
        }
        // Delays that change differ by their order: all 1 + 3 + 9 + 27 times are there.
        s.delay(0, 1000, -20);
        s.delay(1, 110, 300);
        s.delay(2, 12, 500);
        due("three, nine and 27 ways", s.count(5), 40);
        int[] ways = new int[4];
        for (int n = 0; n < 40; n++) {
            ways[s.breakAt(n, 1)]++;
        }
        due("order 1", ways[1], 3);
        due("order 2", ways[2], 9);
        due("order 3", ways[3], 27);
        due("behind the last", s.breakAt(40, 0), NOT_FOUND);
        // A break point that others come ahead of keeps its order and its delay.
        s = new LagSolver();
        right(s, 0, "x@0+x@1+x@2");
        s.delay(0, 100, 0);
        s.delay(1, 220, 0);
        s.delay(2, 5000, 0);
        s.save(0);
        for (int n = 0; n < 2; n++) {
            breaks(s, new int[] {0, 0}, new int[] {100, 1, 0}, new int[] {200, 2, 0}, new int[] {220, 1, 1},
                    new int[] {320, 2, 0}, new int[] {440, 2, 1}, new int[] {5000, 1, 2},
                    new int[] {5100, 2, 0}, new int[] {5220, 2, 1});
            s.set(2, 3);
            s.restore(0);
        }
        // From 1 the lag t / 2 is 0 at 1, but 1 at 2; from 0 it is 0 at 1.
        s = new LagSolver();
        right(s, 0, "x@0+x@1");
        s.delay(0, 0, 500);
        s.delay(1, 1, 0);
        breaks(s, new int[] {0, 0}, new int[] {1, 1, 1}, new int[] {2, 2, 0});
        s.solve(50);
        due("steps", s.count(4), 3);
        due("1", s.step(1, 0), 1);
        due("2", s.step(2, 0), 2);
    }

    private static void promise12() {
        part("promise 12");
        LagSolver s = new LagSolver();
        int[] wrong = {0, -1, 2001, MIN, MAX};
        for (int ticks : wrong) {
            due("solve", s.solve(ticks), INVALID);
        }
        due("kept", s.count(7), 0);
        due("solve", s.solve(1), 1);
        due("kept", s.count(7), 1);
        due("solve", s.solve(2000), 2001);
        due("solve", s.solve(2000), 4001);
        due("solve", s.solve(2000), 6001);
        due("solve", s.solve(2000), LIMIT);
        due("solve", s.solve(2001), INVALID);
        due("kept", s.count(7), 4);
        due("solve", s.solve(1999), 8000);
        due("solve", s.solve(1), LIMIT);
        due("solved", s.count(3), 8000);
        due("undo", s.undo(), 3);
        due("solved", s.count(3), 6001);
    }

    private static void promise12Steps() {
        part("steps");
        // x' = t: K = t, L = t + h, so x = t * t / 2000 where nothing is rounded.
        LagSolver s = new LagSolver();
        right(s, 0, "t");
        s.solve(200);
        due("100", s.value(0, 100), 5);
        due("200", s.value(0, 200), 20);
        // x' = -x from 1000: G = 900, Y = 1000 + (-1000 - 900) * 100 / 2000 = 905.
        s = new LagSolver();
        right(s, 0, "-x");
        s.point(0, -50, 1000);
        s.solve(200);
        due("100", s.value(0, 100), 905);
        // K = -905, G = 905 - 90 = 815, Y = 905 - (905 + 815) * 100 / 2000 = 819.
        due("200", s.value(0, 200), 819);
        due("K", s.step(1, 2), -905);
        // All three at once: x' = y, y' = z, z' = 1 with the second guess from the first ones.
        s = new LagSolver();
        right(s, 0, "y");
        right(s, 1, "z");
        right(s, 2, "1");
        s.solve(100);
        due("z", s.value(2, 100), 100);
        due("y", s.value(1, 100), 5);
        due("x", s.value(0, 100), 0);
        s.solve(100);
        // K = (5, 100, 1000), G = (0, 15, 200), Y = (0 + 20 * 100 / 2000, 5 + 300 * 100 / 2000, 200).
        due("z", s.value(2, 200), 200);
        due("y", s.value(1, 200), 20);
        due("x", s.value(0, 200), 1);
        // The lengths: up to STEP, the break points 30 and 60, and the end.
        s = new LagSolver();
        s.set(0, 25);
        right(s, 0, "x@0");
        s.delay(0, 30, 0);
        s.solve(70);
        int[] begins = {0, 25, 30, 55, 60};
        int[] lengths = {25, 5, 25, 5, 10};
        due("steps", s.count(4), begins.length);
        for (int n = 0; n < begins.length; n++) {
            due("begin of " + n, s.step(n, 0), begins[n]);
            due("length of " + n, s.step(n, 1), lengths[n]);
        }
        s.solve(20);
        due("begins anew at the end", s.step(5, 0), 70);
        due("length", s.step(5, 1), 20);
    }

    private static void promise12ShortLags() {
        part("short lags");
        // x' = x@0 with the lag 40 < 100, from 1000 at 0 and before, no break points.
        LagSolver s = new LagSolver();
        right(s, 0, "x@0");
        s.delay(0, 40, 0);
        s.point(0, 0, 1000);
        s.set(2, 0);
        s.set(1, 0);
        s.solve(100);
        // K = 1000, G = 1100, L: at 60: 1000 + 100 * 60 / 100 = 1060, Y = 1000 + 2060 * 100 / 2000.
        due("no round", s.value(0, 100), 1103);
        due("rounds", s.step(0, 5), 0);
        s.set(1, 1);
        s.solve(100);
        // G = 1103: 1000 + 103 * 60 / 100 = 1061, Y = 1000 + 2061 * 100 / 2000 = 1103.
        due("one round", s.value(0, 100), 1103);
        due("rounds", s.step(0, 5), 1);
        s.clear(0);
        s.point(0, 0, 1000000);
        s.set(1, 0);
        s.solve(100);
        // G = 1100000, L = 1060000, Y = 1000000 + 2060000 / 20 = 1103000.
        due("no round", s.value(0, 100), 1103000);
        s.set(1, 1);
        s.solve(100);
        // L = 1000000 + 103000 * 60 / 100 = 1061800, Y = 1103090.
        due("one round", s.value(0, 100), 1103090);
        s.set(1, 3);
        s.solve(100);
        // L = 1061854, Y = 1103092 (2061854 / 20 = 103092); L = 1061855, Y = 1103092.
        due("three rounds", s.value(0, 100), 1103092);
        due("rounds", s.step(0, 5), 3);
        s.delay(0, 100, 0);
        s.solve(100);
        due("a lag of h", s.step(0, 5), 0);
        s.delay(0, 99, 0);
        s.solve(100);
        due("a lag of h - 1", s.step(0, 5), 3);
        s.delay(0, 0, 0);
        s.solve(100);
        due("a lag of 0", s.step(0, 5), 0);
        // The lag at the end counts: 200 - 9 * t / 10 is 110 at 100 and 20 at 200.
        s.delay(0, 200, -900);
        s.solve(200);
        due("long at 100", s.step(0, 5), 0);
        due("short at 200", s.step(1, 5), 3);
        s.delay(0, 40, 0);
        right(s, 0, "x@1");
        s.solve(100);
        due("short, but not used", s.step(0, 5), 0);
        right(s, 2, "x@0");
        s.solve(100);
        due("used by another", s.step(0, 5), 3);
        // A round of a later step: from X = 200 at 100 with K = 2000 and G = 400, at 140 of 200.
        s = new LagSolver();
        right(s, 0, "2");
        right(s, 1, "x@0");
        s.delay(0, 60, 0);
        s.set(2, 0);
        s.solve(100);
        due("y: K = 0, L = 80", s.value(1, 100), 4);
        s.solve(100);
        due("y: K = 80, L = 280", s.value(1, 200), 4 + 18);
        due("rounds", s.step(1, 5), 1);
        // The slope within a step is that of the line to the guess: 999999000, not 1000000000.
        right(s, 0, "999.999*1000");
        right(s, 1, "x'@0");
        s.set(1, 0);
        s.solve(20);
        due("L of y", s.value(1, 20), 0);
        s.delay(0, 10, 0);
        s.solve(20);
        due("y: K = 0, L = 999999000", s.value(1, 20), 9999990);
        // A slope of the past within the step: z' = x'@0, x' = 1000 * 2 from the line.
        s = new LagSolver();
        right(s, 0, "2");
        right(s, 2, "x'@0");
        s.delay(0, 10, 0);
        s.set(2, 0);
        s.set(1, 0);
        s.solve(100);
        due("x", s.value(0, 100), 200);
        due("z", s.value(2, 100), 100);
        due("K of z", s.step(0, 4), 0);
        s.solve(100);
        due("K of z", s.step(1, 4), 2000);
        due("z", s.value(2, 200), 300);
    }

    private static void promise12SlopeNow() {
        part("slopes of now");
        // With the lag 0 the slope at t is that of the step before: 0 of the history, then 1000.
        LagSolver s = new LagSolver();
        right(s, 0, "1");
        right(s, 1, "x'@0");
        s.point(0, -10, 0);
        s.point(0, 0, 50);
        s.solve(200);
        due("K at 0", s.step(0, 3), 0);
        due("y", s.value(1, 100), 50);
        due("K at 100", s.step(1, 3), 1000);
        due("y", s.value(1, 200), 150);
        // A lag of just h looks at t itself: the value there, and the slope of the step before.
        s = new LagSolver();
        right(s, 0, "1");
        right(s, 1, "x'@0+x@0");
        s.delay(0, 100, 0);
        s.set(2, 0);
        s.solve(200);
        due("K at 0", s.step(0, 3), 0);
        due("y at 100: L is 0", s.value(1, 100), 0);
        due("K at 100", s.step(1, 3), 0);
        // L at 200 looks at 100: slope 1000, value 100.
        due("y at 200", s.value(1, 200), 55);
        // Where a slope of the past jumps in the history: at 0 it is 0, ahead of it 5000.
        s = new LagSolver();
        right(s, 1, "x'@0");
        s.point(0, -10, 0);
        s.point(0, 0, 50);
        s.delay(0, 10, 0);
        s.set(0, 20);
        s.set(2, 1);
        s.solve(20);
        due("K at 0", s.step(0, 3), 5000);
        due("y at 10", s.value(1, 10), 25);
        due("K at 10", s.step(1, 3), 0);
        due("y at 20", s.value(1, 20), 25);
    }

    private static void promise13() {
        part("promise 13");
        LagSolver s = new LagSolver();
        s.point(0, -100, 500);
        s.point(0, 0, 700);
        due("ahead", s.value(0, -10000), 500);
        due("ahead", s.value(0, -101), 500);
        due("at a", s.value(0, -100), 500);
        due("between", s.value(0, -99), 502);
        due("between", s.value(0, -1), 698);
        due("at b", s.value(0, 0), 700);
        due("not solved", s.value(0, 1), NOT_FOUND);
        s.point(1, -7, 10);
        s.point(1, -4, 0);
        // 10 + (0 - 10) * 1 / 3 = 10 - 3.
        due("rounded toward 0", s.value(1, -6), 7);
        due("rounded toward 0", s.value(1, -5), 4);
        due("behind", s.value(1, -3), 0);
        due("behind", s.value(1, 0), 0);
        s.solve(50);
        due("solved", s.value(1, 50), 0);
        due("not solved", s.value(1, 51), NOT_FOUND);
        due("not solved", s.value(1, 8000), NOT_FOUND);
        int[][] wrong = {{-1, 0}, {3, 0}, {0, -10001}, {0, 8001}, {MIN, 0}, {MAX, 0}, {0, MIN}, {0, MAX}};
        for (int[] row : wrong) {
            due("value", s.value(row[0], row[1]), INVALID);
        }
        s = new LagSolver();
        s.point(0, -10000, -1000000);
        s.point(0, 0, 1000000);
        due("great numbers", s.value(0, -1), 999800);
        due("great numbers", s.value(0, -5000), 0);
        due("great numbers", s.value(0, -9999), -999800);
    }

    private static void promise13Between() {
        part("between the steps");
        // x' = -x from 1000: K = -1000, Y = 905, A = 905 - 1000 + 100 = 5.
        LagSolver s = new LagSolver();
        right(s, 0, "-x");
        s.point(0, 0, 1000);
        s.solve(100);
        due("1", s.value(0, 1), 999);
        due("50", s.value(0, 50), 951);
        due("44", s.value(0, 44), 956);
        due("45", s.value(0, 45), 956);
        due("99", s.value(0, 99), 905);
        due("100", s.value(0, 100), 905);
        // Slope: -1000 + 2000 * 5 * e / 10000.
        due("slope at 0", s.slope(0, 0), 0);
        due("slope at 1", s.slope(0, 1), -999);
        due("slope at 50", s.slope(0, 50), -950);
        due("slope at 99", s.slope(0, 99), -901);
        due("slope at 100", s.slope(0, 100), -900);
        // Each quotient is rounded alone: x' = -0.015 * t, K = 0, L = -1 (-1.5), Y = 0, A = 0.
        s = new LagSolver();
        right(s, 0, "-0.015*t");
        s.solve(200);
        due("100", s.value(0, 100), 0);
        // K = -1, L = -3, Y = -4 * 100 / 2000 = 0, K * h / 1000 = 0, A = 0.
        due("slope at 200", s.slope(0, 200), -1);
        // Great numbers: K = 1000000000, L = -1000000000, A = -500000000.
        s = new LagSolver();
        right(s, 0, "9999*9999*((0.25-t)*9999)");
        s.set(0, 500);
        s.solve(500);
        due("K", s.step(0, 2), 1000000000);
        due("250", s.value(0, 250), 125000000);
        due("500", s.value(0, 500), 0);
        due("slope at 499", s.slope(0, 499), -996000000);
        due("slope at 500", s.slope(0, 500), -1000000000);
    }

    private static void promise14() {
        part("promise 14");
        LagSolver s = new LagSolver();
        s.point(0, -100, 500);
        s.point(0, -50, 700);
        s.point(0, 0, 0);
        due("ahead", s.slope(0, -101), 0);
        due("at a", s.slope(0, -100), 4000);
        due("ahead of b", s.slope(0, -51), 4000);
        due("at b", s.slope(0, -50), -14000);
        due("ahead of c", s.slope(0, -1), -14000);
        due("at the last", s.slope(0, 0), 0);
        due("not solved", s.slope(0, 1), NOT_FOUND);
        s.point(1, -7, 0);
        due("one point", s.slope(1, -7), 0);
        s.point(1, -4, -10);
        due("rounded", s.slope(1, -7), -3333);
        due("behind", s.slope(1, -3), 0);
        s.point(2, -1, 1000000);
        s.point(2, 0, -1000000);
        due("not held", s.slope(2, -1), -2000000000);
        right(s, 0, "t");
        s.solve(100);
        // K = 0, L = 100, Y = 5 (from 0), A = 5: the slope at 100 is 2000 * 5 / 100.
        due("100", s.slope(0, 100), 100);
        due("50", s.slope(0, 50), 50);
        due("0", s.slope(0, 0), 0);
        due("not solved", s.slope(0, 101), NOT_FOUND);
        int[][] wrong = {{-1, 0}, {3, 0}, {0, -10001}, {0, 8001}, {MIN, 0}, {MAX, 0}, {0, MIN}, {0, MAX}};
        for (int[] row : wrong) {
            due("slope", s.slope(row[0], row[1]), INVALID);
        }
        // Of another variable, at the end of a step, and where the next one begins with -50:
        // K of y is 50 - 0 at 0 and 50 - 100 at 100, L at 100 is 50 - 0 as the guess of x is 0.
        s = new LagSolver();
        right(s, 0, "t");
        right(s, 1, "0.05-x'@0");
        s.solve(200);
        due("y", s.value(1, 100), 5);
        due("K", s.step(1, 3), -50);
        due("slope at 99", s.slope(1, 99), 50);
        due("slope at 100", s.slope(1, 100), 50);
        due("slope at 101", s.slope(1, 101) < 0 ? 1 : 0, 1);
        due("the time before is of the step before", s.crossing(1, 5, 100), 100);
        // At the end of a step the slope is that of this step: 1000, then 0 from 100 on.
        s = new LagSolver();
        right(s, 0, "y@0");
        s.point(1, -1, 1000);
        s.point(1, 0, 0);
        s.delay(0, 101, 0);
        s.set(2, 0);
        s.solve(200);
        due("100", s.slope(0, 100), 1000);
        due("101", s.slope(0, 101), 990);
        due("200", s.slope(0, 200), 0);
    }

    private static void promise15() {
        part("promise 15");
        LagSolver s = new LagSolver();
        right(s, 0, "1");
        right(s, 1, "x@0+x");
        right(s, 2, "x'@0*t");
        s.delay(0, 30, 0);
        s.point(0, -30, -60);
        s.point(0, 0, 0);
        due("0", s.rightAt(1, 0), -60);
        due("0", s.rightAt(2, 0), 0);
        due("not solved", s.rightAt(1, 1), NOT_FOUND);
        s.solve(100);
        due("x", s.rightAt(0, 100), 1000);
        due("15: -30 + 15", s.rightAt(1, 15), -15);
        due("30: 0 + 30", s.rightAt(1, 30), 30);
        due("80: 50 + 80", s.rightAt(1, 80), 130);
        due("100: 70 + 100", s.rightAt(1, 100), 170);
        due("15: 2000 * 15 / 1000", s.rightAt(2, 15), 30);
        due("30: the slope at 0 is 0", s.rightAt(2, 30), 0);
        due("31: the slope is 1000", s.rightAt(2, 31), 31);
        due("not solved", s.rightAt(0, 101), NOT_FOUND);
        due("not solved", s.rightAt(0, 8000), NOT_FOUND);
        s.delay(0, 0, 0);
        s.solve(100);
        due("lag 0", s.rightAt(1, 40), 80);
        due("lag 0, slope", s.rightAt(2, 40), 40);
        int[][] wrong = {{-1, 0}, {3, 0}, {0, -1}, {0, 8001}, {MIN, 0}, {MAX, 0}, {0, MIN}, {0, MAX}};
        for (int[] row : wrong) {
            due("rightAt", s.rightAt(row[0], row[1]), INVALID);
        }
        due("is no change", s.count(3), 100);
    }

    private static void promise16() {
        part("promise 16");
        LagSolver s = new LagSolver();
        due("none", s.step(0, 0), NOT_FOUND);
        right(s, 0, "t");
        right(s, 1, "2");
        right(s, 2, "-x@0");
        s.delay(0, 60, 0);
        s.set(2, 0);
        s.set(1, 2);
        s.solve(150);
        int[][] rows = {{0, 100, 0, 2000, 0, 2}, {100, 50, 100, 2000, 0, 0}};
        due("steps", s.count(4), rows.length);
        for (int n = 0; n < rows.length; n++) {
            for (int what = 0; what < 6; what++) {
                due("step " + n + " " + what, s.step(n, what), rows[n][what]);
            }
        }
        due("behind", s.step(2, 0), NOT_FOUND);
        due("behind", s.step(MAX, 5), NOT_FOUND);
        int[][] wrong = {{-1, 0}, {MIN, 0}, {0, -1}, {0, 6}, {0, MIN}, {0, MAX}, {50, 6}};
        for (int[] row : wrong) {
            due("step", s.step(row[0], row[1]), INVALID);
        }
        s.set(1, 1);
        due("none again", s.step(0, 0), NOT_FOUND);
    }

    private static void promise17() {
        part("promise 17");
        // x = t * t / 2000 in steps: 0 at 0, 5 at 100, 20 at 200.
        LagSolver s = new LagSolver();
        right(s, 0, "1");
        right(s, 1, "-1");
        right(s, 2, "100-t");
        due("not solved", s.crossing(0, 0, 1), NOT_FOUND);
        s.solve(300);
        due("5", s.crossing(0, 5, 1), 5);
        due("5 from 5", s.crossing(0, 5, 5), 5);
        due("5 from 6", s.crossing(0, 5, 6), NOT_FOUND);
        due("1", s.crossing(0, 1, 1), 1);
        due("0: one tick earlier it is not less", s.crossing(0, 0, 1), NOT_FOUND);
        due("at the end", s.crossing(0, 300, 1), 300);
        due("at the end", s.crossing(0, 300, 300), 300);
        due("behind the end", s.crossing(0, 301, 1), NOT_FOUND);
        due("from behind the end", s.crossing(0, 300, 301), NOT_FOUND);
        due("from behind the end", s.crossing(0, 300, 8000), NOT_FOUND);
        due("falling", s.crossing(1, -5, 1), NOT_FOUND);
        due("101: over the end of a step", s.crossing(0, 101, 101), 101);
        due("100", s.crossing(0, 100, 1), 100);
        due("far", s.crossing(0, 1000000000, 1), NOT_FOUND);
        due("far", s.crossing(0, -1000000000, 1), NOT_FOUND);
        int[][] wrong = {
            {-1, 0, 1}, {3, 0, 1}, {0, 1000000001, 1}, {0, -1000000001, 1}, {0, 0, 0}, {0, 0, 8001},
            {MIN, 0, 1}, {MAX, 0, 1}, {0, MIN, 1}, {0, MAX, 1}, {0, 0, MIN}, {0, 0, MAX}};
        for (int[] row : wrong) {
            due("crossing", s.crossing(row[0], row[1], row[2]), INVALID);
        }
        // From less than the level at 0 of the history to it at 1.
        s.point(0, 0, 41);
        s.solve(10);
        due("from the history", s.crossing(0, 42, 1), 1);
        due("the history alone", s.crossing(0, 41, 1), NOT_FOUND);
        // More than once: x' = 9 sin-like, -y and x.
        s = new LagSolver();
        right(s, 0, "-60*y");
        right(s, 1, "60*x");
        s.point(0, 0, 1000);
        s.set(0, 20);
        s.solve(300);
        int first = s.crossing(0, 0, 1);
        int second = s.crossing(0, 0, first + 1);
        due("at the first", s.value(0, first) >= 0 && s.value(0, first - 1) < 0 ? 1 : 0, 1);
        due("at the second", s.value(0, second) >= 0 && s.value(0, second - 1) < 0 ? 1 : 0, 1);
        due("later", second > first ? 1 : 0, 1);
    }

    private static void promise18() {
        part("promise 18");
        LagSolver s = new LagSolver();
        right(s, 0, "1");
        right(s, 1, "-1");
        s.point(1, 0, 7);
        due("0", s.greatest(1, 0, 0, 0), 7);
        due("0", s.greatest(1, 0, 0, 1), 0);
        due("not solved", s.greatest(1, 0, 1, 0), NOT_FOUND);
        s.solve(250);
        due("up", s.greatest(0, 0, 250, 0), 250);
        due("up", s.greatest(0, 0, 250, 1), 250);
        due("part", s.greatest(0, 90, 110, 0), 110);
        due("part", s.greatest(0, 100, 101, 1), 101);
        due("down", s.greatest(1, 0, 250, 0), 7);
        due("down", s.greatest(1, 0, 250, 1), 0);
        due("down", s.greatest(1, 33, 250, 0), -26);
        due("down", s.greatest(1, 33, 250, 1), 33);
        due("one tick", s.greatest(1, 250, 250, 0), -243);
        due("the first of equal ones", s.greatest(2, 3, 250, 1), 3);
        due("behind", s.greatest(0, 0, 251, 0), NOT_FOUND);
        due("behind", s.greatest(0, 8000, 8000, 0), NOT_FOUND);
        int[][] wrong = {
            {-1, 0, 0, 0}, {3, 0, 0, 0}, {0, -1, 0, 0}, {0, 8001, 8001, 0}, {0, 5, 4, 0}, {0, 0, 8001, 0},
            {0, 0, 0, -1}, {0, 0, 0, 2}, {0, MIN, 0, 0}, {0, 0, MIN, 0}, {0, 0, MAX, 0}, {0, MAX, MAX, 0},
            {MIN, 0, 0, 0}, {MAX, 0, 0, 0}, {0, 0, 0, MIN}, {0, 0, 0, MAX}};
        for (int[] row : wrong) {
            due("greatest", s.greatest(row[0], row[1], row[2], row[3]), INVALID);
        }
        // A top between the ends of a step: at e it is 2 * e - e * e / 100, which is 182 - 82 at 91.
        s = new LagSolver();
        right(s, 0, "2-20*t");
        s.set(0, 200);
        s.solve(200);
        due("top", s.greatest(0, 0, 200, 0), 100);
        due("at", s.greatest(0, 0, 200, 1), 91);
    }

    private static void promise19() {
        part("promise 19");
        LagSolver s = new LagSolver();
        right(s, 0, "-x");
        s.point(0, 0, 1000000);
        due("not solved", s.differs(20), 0);
        s.solve(100);
        // 905000 with 100; with 50: 951250, then 951250 * 0.95125 = 904876 (906, 875 and so on).
        due("100", s.differs(100), 0);
        due("500", s.differs(500), 0);
        due("50", s.differs(50), 905000 - model50());
        due("nothing changed", s.count(0), 100);
        due("nothing changed", s.count(4), 1);
        due("nothing changed", s.value(0, 100), 905000);
        due("nothing kept", s.count(7), 2 + 1);
        // As one call of solve() would: two calls made steps of 50.
        s = new LagSolver();
        right(s, 0, "-x");
        s.point(0, 0, 1000000);
        s.solve(50);
        s.solve(50);
        due("two calls", s.differs(100), 905000 - model50());
        // More than 2000 ticks; the greatest size of all variables, held.
        s = new LagSolver();
        right(s, 0, "x");
        right(s, 1, "-9*y");
        s.point(0, 0, -1000);
        s.point(1, 0, 1);
        for (int n = 0; n < 4; n++) {
            s.solve(2000);
        }
        due("8000", s.count(3), 8000);
        due("100", s.differs(100), 0);
        int other = s.differs(20);
        int had = s.value(0, 8000);
        s.set(0, 20);
        for (int n = 0; n < 4; n++) {
            s.solve(2000);
        }
        due("20", other, Math.abs((long) s.value(0, 8000) - had));
        due("more than 0", other > 0 ? 1 : 0, 1);
        int[] wrong = {19, 501, 0, -1, MIN, MAX};
        for (int step : wrong) {
            due("differs", s.differs(step), INVALID);
        }
        // Held: a turn whose steps are so long that it goes from bound to bound.
        s = turning(100);
        boolean wasHeld = false;
        // Steps that divide 2000, so that four calls of solve() make the steps of one.
        for (int step : new int[] {20, 25, 40, 50, 80, 100, 125, 200, 250, 400, 500}) {
            LagSolver t = turning(step);
            long most = 0;
            for (int v = 0; v < 3; v++) {
                most = Math.max(most, Math.abs((long) s.value(v, 8000) - t.value(v, 8000)));
            }
            wasHeld |= most > 1000000000;
            due("step " + step, s.differs(step), Math.min(1000000000, most));
        }
        due("was held", wasHeld ? 1 : 0, 1);
    }

    private static LagSolver turning(int step) {
        LagSolver s = new LagSolver();
        right(s, 0, "-5*y+x");
        right(s, 1, "5*x+y");
        s.point(0, 0, 1000000);
        s.set(0, step);
        for (int n = 0; n < 4; n++) {
            s.solve(2000);
        }
        return s;
    }

    /** x' = -x from 1000000 in two steps of 50. */
    private static int model50() {
        int x = 1000000;
        for (int n = 0; n < 2; n++) {
            int k = -x;
            int g = x + k * 50 / 1000;
            x += (k - g) * 50L / 2000;
        }
        return x;
    }

    private static void promise20() {
        part("promise 20");
        LagSolver s = new LagSolver();
        s.set(0, 33);
        s.set(1, 3);
        s.set(2, 1);
        s.delay(0, 10, 1);
        s.delay(1, 700, -2);
        s.delay(2, 10, 3);
        s.point(0, 0, 1);
        s.point(0, -1, 1);
        s.point(1, -1, 1);
        s.point(2, -1, 1);
        s.point(2, -2, 1);
        s.point(2, -3, 1);
        right(s, 0, "x@1");
        right(s, 1, "x'@2");
        s.solve(100);
        type(s, "12345");
        int[] counts = {33, 3, 1, 100, 4, 3, 5, 4, 2, 1, 3, 1, -2, 3, 6};
        for (int what = 0; what < counts.length; what++) {
            due("count " + what, s.count(what), counts[what]);
        }
        int[] wrong = {-1, 15, MIN, MAX};
        for (int what : wrong) {
            due("count", s.count(what), INVALID);
        }
    }

    private static void promise21() {
        part("promise 21");
        LagSolver s = new LagSolver();
        due("none", s.undo(), NOT_POSSIBLE);
        for (int n = 1; n <= 6; n++) {
            s.set(0, 100 + n);
            due("kept", s.count(7), Math.min(4, n));
        }
        for (int n = 3; n >= 0; n--) {
            due("undo", s.undo(), n);
            due("setting", s.count(0), 102 + n);
        }
        due("none left", s.undo(), NOT_POSSIBLE);
        due("setting", s.count(0), 102);
        // All parts of the state come back.
        s = new LagSolver();
        right(s, 0, "x@0+2");
        s.delay(0, 70, 5);
        s.point(0, -9, 900);
        s.set(1, 4);
        s.solve(500);
        int value = s.value(0, 500);
        int steps = s.count(4);
        right(s, 0, "y+1");
        s.delay(0, 1, 1);
        s.clear(0);
        s.solve(30);
        due("undo solve", s.undo(), 3);
        due("solved", s.count(3), 0);
        due("undo clear", s.undo(), 2);
        due("points", s.count(8), 1);
        due("point", s.value(0, -9), 900);
        due("undo delay", s.undo(), 1);
        due("part", s.count(11), 5);
        due("lag", s.lag(0, 0), 70);
        due("undo right", s.undo(), 0);
        due("solved", s.count(3), 500);
        due("value", s.value(0, 500), value);
        due("steps", s.count(4), steps);
        due("break", s.breakAt(1, 1), 1);
        due("delays", s.count(14), 1);
        due("the text is not brought back", s.count(6), 0);
        due("none left", s.undo(), NOT_POSSIBLE);
        due("goes on", s.solve(100), 600);
        // The slots are not part of the state.
        s = new LagSolver();
        s.solve(10);
        s.save(0);
        s.undo();
        due("slot", s.restore(0), 10);
        due("restore is undone", s.undo(), 0);
        due("solved", s.count(3), 0);
    }

    private static void promise22() {
        part("promise 22");
        LagSolver s = new LagSolver();
        due("wrong", s.save(-1), INVALID);
        due("wrong", s.save(2), INVALID);
        due("wrong", s.save(MIN), INVALID);
        due("wrong", s.save(MAX), INVALID);
        due("save", s.save(1), 0);
        due("is no change", s.count(7), 0);
        s.solve(77);
        due("save", s.save(0), 77);
        due("solved", s.count(3), 77);
        due("the other slot", s.restore(1), 0);
        due("this slot", s.restore(0), 77);
        s.solve(3);
        due("in place", s.save(0), 80);
        s.clear(0);
        due("restore", s.restore(0), 80);
    }

    private static void promise23() {
        part("promise 23");
        LagSolver s = new LagSolver();
        due("wrong", s.restore(-1), INVALID);
        due("wrong", s.restore(2), INVALID);
        due("wrong", s.restore(MIN), INVALID);
        due("wrong", s.restore(MAX), INVALID);
        due("nothing", s.restore(0), NOT_POSSIBLE);
        s.save(1);
        due("nothing", s.restore(0), NOT_POSSIBLE);
        due("none kept", s.count(7), 0);
        right(s, 1, "x'@2-t");
        s.delay(2, 60, -8);
        s.point(0, -40, 0);
        s.point(0, -20, 300);
        s.set(0, 45);
        s.set(2, 3);
        s.solve(400);
        s.save(0);
        int value = s.value(1, 333);
        int slope = s.slope(1, 333);
        int breaks = s.count(5);
        int secondOrder = s.breakAt(2, 1);
        right(s, 1, "1-2*x@0/9");
        s.delay(2, 1, 1);
        s.delay(0, 5, 0);
        s.delay(1, 5, 0);
        s.clear(0);
        s.point(0, -1, 7);
        s.point(0, -39, 8);
        s.point(0, -3, 9);
        s.set(0, 20);
        due("other steps", s.solve(444), 444);
        due("other breaks", right(s, 0, "x@0+y@1"), 3);
        type(s, "abc");
        due("kept", s.count(7), 4);
        due("restore", s.restore(0), 400);
        due("kept", s.count(7), 4);
        due("text stays", s.count(6), 3);
        due("value", s.value(1, 333), value);
        due("slope", s.slope(1, 333), slope);
        due("breaks", s.count(5), breaks);
        due("break's order", s.breakAt(2, 1), secondOrder);
        due("break's delay", s.breakAt(1, 2), 2);
        due("break's time", s.breakAt(1, 0), 60);
        due("points", s.count(8), 2);
        due("a point", s.value(0, -30), 150);
        due("a point", s.slope(0, -21), 15000);
        due("setting", s.count(0), 45);
        due("delays", s.count(14), 4);
        due("part", s.count(13), -8);
        due("undo", s.undo(), 3);
        due("setting", s.count(0), 20);
        // The slot keeps its state, whatever is done with the one that came from it.
        due("restore", s.restore(0), 400);
        due("solve", s.solve(100), 500);
        due("point", s.point(0, 0, 9), 3);
        due("restore", s.restore(0), 400);
        due("points", s.count(8), 2);
        due("value", s.value(1, 333), value);
    }

    /** 450 calls of solve() that end within steps of 20, each state recorded and brought back. */
    private static void manySteps() {
        part("many steps");
        LagSolver s = new LagSolver();
        right(s, 0, "1");
        s.set(0, 20);
        int steps = 0;
        for (int n = 0; n < 450; n++) {
            s.solve(n < 377 ? 21 : 1);
            steps += n < 377 ? 2 : 1;
        }
        due("solve", s.solve(10), 8000);
        due("steps", s.count(4), steps + 1);
        due("save", s.save(0), 8000);
        due("differs", s.differs(20), 0);
        due("undo", s.undo(), 3);
        due("solved", s.count(3), 7990);
        due("clear", s.clear(0), 0);
        due("solve", s.solve(40), 40);
        due("restore", s.restore(0), 8000);
        due("steps", s.count(4), steps + 1);
        for (int time = 0; time <= 8000; time += 400) {
            due("value at " + time, s.value(0, time), time);
        }
        due("last", s.step(steps, 0), 7990);
        due("behind", s.step(steps + 1, 0), NOT_FOUND);
    }

    private static void changes() {
        part("changes");
        LagSolver s = new LagSolver();
        right(s, 0, "x@0+1");
        s.delay(0, 30, 0);
        s.solve(100);
        int kept = s.count(7);
        // None of these is a change, nor is a call with an error.
        s.fault();
        s.wipe();
        s.type('x');
        s.lag(0, 0);
        s.breakAt(0, 0);
        s.value(0, 5);
        s.slope(0, 5);
        s.rightAt(0, 5);
        s.step(0, 0);
        s.crossing(0, 1, 1);
        s.greatest(0, 0, 9, 0);
        s.differs(50);
        s.count(3);
        s.save(0);
        s.wipe();
        s.right(0);
        s.delay(3, 0, 0);
        s.point(0, 1, 0);
        s.clear(3);
        s.set(0, 19);
        s.solve(0);
        s.restore(1);
        due("kept", s.count(7), kept);
        due("solved", s.count(3), 100);
        due("undo", s.undo(), kept - 1);
        due("solved", s.count(3), 0);
    }
}
