/** The numbers that are held, and those that are not; quotients that are cut off, and those by 0. */
public final class HeldTest {
    private static final int BOUND = 1000000000;
    private static final Tally TALLY = new Tally();

    public static void main(String[] args) {
        sums();
        differences();
        negatives();
        products();
        quotients();
        notHeld();
        firstGuess();
        lineWithinAStep();
        slopeOfTheLine();
        secondGuess();
        exactUntilHeld();
        valueWithinAStep();
        slopeWithinAStep();
        differenceOfSteps();
        quotientsByZero();
        cutOffInRightSides();
        cutOffInHistoriesAndLags();
        cutOffInTheFirstGuess();
        cutOffInTheLine();
        cutOffInTheSecondGuess();
        cutOffWithinAStep();
        TALLY.end("HeldTest");
    }

    /** Tells the right side of z at 0, where x is 1000, y is -1000. */
    private static void due(String text, long want) {
        Calls s = new Calls(TALLY, "point(0, 0, 1000000) point(1, 0, -1000000)");
        s.right(2, text);
        TALLY.due(text, s.ask("rightAt(2, 0)"), want);
    }

    // ---- right sides

    private static void sums() {
        TALLY.part("the sum of numbers is held");
        due("x*x+0", BOUND);
        due("x*999.999+0.999", BOUND - 1);
        due("x*999.999+1", BOUND);
        due("x*999.999+1.001", BOUND);
        due("x*x+0.001", BOUND);
        due("0.001+x*x", BOUND);
        due("x*x+x*x", BOUND);
        due("x*y+-0.001", -BOUND);
        due("x*y+y*x", -BOUND);
        due("y*999.999+-0.999", 1 - BOUND);
        due("y*999.999+-1", -BOUND);
        due("y*999.999+-1.001", -BOUND);
        due("x*x+x*y", 0);
        TALLY.part("each sum is held, from left to right");
        due("x*x+1-1", BOUND - 1000);
        due("x*x-1+1", BOUND);
        due("x*x+x*x+x*y", 0);
        due("x*y+x*y+x*x", 0);
        due("x*x+(x*x+x*y)", BOUND);
        due("-1+x*x+1", BOUND);
    }

    private static void differences() {
        TALLY.part("the difference of numbers is held");
        due("x*y-0", -BOUND);
        due("x*y-0.001", -BOUND);
        due("x*x-0.001", BOUND - 1);
        due("x*x-x*x", 0);
        due("x*x-x*y", BOUND);
        due("x*y-x*x", -BOUND);
        due("x*x--0.001", BOUND);
        due("0.001-x*x", 1 - BOUND);
        due("-0.001-x*x", -BOUND);
        TALLY.part("each difference is held, from left to right");
        due("x*y-1+1", 1000 - BOUND);
        due("x*y-(1-1)", -BOUND);
        due("x*y-x*x-x*y", 0);
    }

    private static void negatives() {
        TALLY.part("the negative of a number is held");
        due("-(x*x)", -BOUND);
        due("-(x*y)", BOUND);
        due("--(x*y)", -BOUND);
        // A number whose negative is too great: the slope of a history, which is not held.
        for (int sign = -1; sign <= 1; sign += 2) {
            Calls s = steep(sign);
            s.right(1, "-x'@1");
            s.due("rightAt(1, 0)", -sign * BOUND);
            s.right(1, "--x'@1");
            s.due("rightAt(1, 0)", sign * BOUND);
            s.right(1, "-x'@1/2");
            s.due("rightAt(1, 0)", -sign * BOUND / 2);
        }
    }

    private static void products() {
        TALLY.part("the product of numbers is held");
        due("x*x", BOUND);
        due("x*999.999", 999999000);
        due("x*1000.001", BOUND);
        due("x*y", -BOUND);
        due("x*-999.999", -999999000);
        due("x*-1000.001", -BOUND);
        due("1000.001*999.999", 999999999);
        due("1000.001*-999.999", -999999999);
        due("9999.999*9999.999", BOUND);
        due("-9999.999*9999.999", -BOUND);
        TALLY.part("each product is held, from left to right");
        due("x*x*2*0.5", BOUND / 2);
        due("x*x*0.5*2", BOUND);
        due("x*y*2*0.5", -BOUND / 2);
        due("x*x*(x*x)", BOUND);
        due("x*y*(x*x)", -BOUND);
        due("x*y*(x*y)", BOUND);
    }

    private static void quotients() {
        TALLY.part("the quotient of numbers is held");
        due("x/0.001", BOUND);
        due("999.999/0.001", 999999000);
        due("1000.001/0.001", BOUND);
        due("y/0.001", -BOUND);
        due("-999.999/0.001", -999999000);
        due("-1000.001/0.001", -BOUND);
        due("x/-0.001", -BOUND);
        due("1000.001/-0.001", -BOUND);
        due("x*x/0.001", BOUND);
        due("x*x/-0.001", -BOUND);
        due("x*x/(x*x)", 1000);
        due("x*y/(x*x)", -1000);
        due("x*x/1", BOUND);
        due("x*x/0.999", BOUND);
        due("x*x/1.001", 999000999);
        TALLY.part("each quotient is held, from left to right");
        due("x/0.001/0.5/2", BOUND / 2);
        due("x*x/0.5/2", BOUND / 2);
        due("x*x/0.5*0", 0);
    }

    /** The history of x rises (or falls) by 2000000 in the tick ahead of 0; the delay 1 is one tick. */
    private static Calls steep(int sign) {
        return new Calls(TALLY, "point(0, -1, " + -sign * 1000000 + ") point(0, 0, " + sign * 1000000 + ")"
                + " delay(1, 1, 0) set(2, 0) set(1, 0) set(0, 500)");
    }

    private static void notHeld() {
        TALLY.part("a slope of a history, and what is only this slope, is not said to be held");
        for (int sign = -1; sign <= 1; sign += 2) {
            Calls s = steep(sign);
            s.due("slope(0, -1)", sign * 2L * BOUND);
            s.due("slope(0, 0)", 0);
            s.due("slope(0, -2)", 0);
            String[] same = {"x'@1", "(x'@1)", "min(x'@1,x'@1)", "max(x'@1,x'@1)"};
            for (String text : same) {
                s.right(1, text);
                s.due("rightAt(1, 0)", sign * 2L * BOUND);
            }
            s.right(1, "x'@1");
            s.due("solve(500)", 500);
            s.due("step(0, 3)", sign * 2L * BOUND);
            String[] held = {"x'@1+0", "0+x'@1", "x'@1-0", "x'@1*1", "1*x'@1", "x'@1/1"};
            for (String text : held) {
                s.right(1, text);
                s.due("rightAt(1, 0)", sign * BOUND);
            }
            s.right(1, "x'@1*0.25");
            s.due("rightAt(1, 0)", sign * BOUND / 2);
            s.right(1, "x'@1/4");
            s.due("rightAt(1, 0)", sign * BOUND / 2);
            s.right(1, "x'@1*x'@1");
            s.due("rightAt(1, 0)", BOUND);
            s.right(1, "x'@1/x'@1");
            s.due("rightAt(1, 0)", 1000);
            s.right(1, "x'@1-x'@1");
            s.due("rightAt(1, 0)", 0);
        }
    }

    // ---- steps

    private static void firstGuess() {
        TALLY.part("steps 2: G = X + K * h / 1000, held");
        for (int sign = -1; sign <= 1; sign += 2) {
            Calls s = new Calls(TALLY, "set(0, 500)");
            // x goes to the bound up to 1000; y tells the guess of x by L, which is x / 1000.
            s.right(0, sign + "000*1000");
            s.right(1, "x/1000");
            s.all("solve(1500)");
            s.due("value(1, 500)", sign * 125000);
            s.due("value(1, 1000)", sign * 500000);
            s.due("value(1, 1500)", sign * 1000000);
            s.due("step(2, 3)", sign * 1000000);
        }
    }

    private static void lineWithinAStep() {
        // It is between X and G, which are held: what can be seen is that its product is exact.
        TALLY.part("steps 3: X + (G - X) * (u - t) / h, held");
        for (int sign = -1; sign <= 1; sign += 2) {
            // x at 400, 900 and 1400 is told to y; (G - X) * (u - t) is 500000000 * 400.
            Calls s = new Calls(TALLY, "set(0, 500) set(2, 0) set(1, 0) delay(0, 100, 0)");
            s.right(0, sign + "000*1000");
            s.right(1, "x@0/1000");
            s.all("solve(1500)");
            // L = 400000, then K = 400000 and L = 900000, then K = 900000 and L = 1000000.
            s.due("value(1, 500)", sign * 100000);
            s.due("value(1, 1000)", sign * 425000);
            s.due("value(1, 1500)", sign * 900000);
            s.due("step(2, 3)", sign * 900000);
        }
    }

    private static void slopeOfTheLine() {
        TALLY.part("steps 3: its slope (G - X) * 1000 / h, held");
        for (int sign = -1; sign <= 1; sign += 2) {
            // K of y is 2000000000, so that its guess at h is as steep.
            Calls s = steep(sign);
            s.all("delay(2, 10, 0)");
            s.right(1, "x'@1");
            s.right(2, "y'@2");
            s.due("solve(20)", 20);
            s.due("step(0, 4)", 0);
            s.due("value(2, 20)", sign * 10000000);
            // Half as steep is not held.
            s = steep(sign);
            s.all("delay(2, 10, 0)");
            s.right(1, "x'@1*0.499");
            s.right(2, "y'@2");
            s.due("solve(20)", 20);
            s.due("value(2, 20)", sign * 9980000);
        }
    }

    private static void secondGuess() {
        TALLY.part("steps 4: Y = X + (K + L) * h / 2000, held");
        for (int sign = -1; sign <= 1; sign += 2) {
            Calls s = new Calls(TALLY, "set(0, 500)");
            s.right(0, sign + "000*1000");
            s.right(1, sign + "000*999.999");
            s.right(2, sign + "000*999.9");
            s.all("solve(1000)");
            s.due("value(0, 1000)", sign * BOUND);
            s.due("value(1, 1000)", sign * 999999000);
            s.due("value(2, 1000)", sign * 999900000);
            s.all("solve(1)");
            s.due("value(0, 1001)", sign * BOUND);
            s.due("value(1, 1001)", sign * BOUND);
            s.due("value(2, 1001)", sign * BOUND);
            s.all("solve(2000) solve(2000)");
            s.due("value(0, 5001)", sign * BOUND);
            s.due("step(2, 2)", sign * BOUND);
            // It comes back from the bound, not from behind it.
            s = new Calls(TALLY, "set(0, 500)");
            s.right(0, sign + "000*(2.25-t)*9999");
            s.all("solve(2000) solve(500)");
            s.due("value(0, 2000)", sign * BOUND);
            s.due("value(0, 2500)", sign * BOUND);
            s.all("solve(500)");
            s.due("value(0, 3000)", sign * BOUND / 2);
        }
    }

    private static void exactUntilHeld() {
        TALLY.part("products and sums are exact until they are held");
        for (int sign = -1; sign <= 1; sign += 2) {
            // K is 2000000000 and L is 1000000000: their sum is more than a whole number of 32 bits.
            Calls s = steep(sign);
            s.right(1, sign > 0 ? "max(x'@1,1000*1000)" : "min(x'@1,-1000*1000)");
            s.due("solve(500)", 500);
            s.due("step(0, 3)", sign * 2L * BOUND);
            s.due("value(1, 500)", sign * 750000000);
            // The guess is then 0 + 2000000000 * 500 / 1000.
            s = steep(sign);
            s.right(1, "x'@1");
            s.right(2, "y/1000");
            s.due("solve(500)", 500);
            s.due("value(1, 500)", sign * BOUND / 2);
            s.due("value(2, 500)", sign * 250000);
        }
        // The first product is 99999980000 before it is held, the quotients are 1000000000000 / b.
        due("9999.999*9999.999/9999.999", 100000);
        due("x*x/1000.001", 999999);
        due("x*y/1000.001", -999999);
        due("0.001*(x*x)", 1000000);
    }

    private static void valueWithinAStep() {
        TALLY.part("between the ends of a step a value is .., held");
        for (int sign = -1; sign <= 1; sign += 2) {
            // From the bound at 1000 up with K, at 1250 down: 1125000000 if it were not held.
            Calls s = new Calls(TALLY, "set(0, 500)");
            s.right(0, sign + "000*(1.25-t)*9999");
            s.due("solve(1500)", 1500);
            s.due("step(2, 2)", sign * BOUND);
            for (int time : new int[] {1000, 1001, 1250, 1499, 1500}) {
                s.due("value(0, " + time + ")", sign * BOUND);
            }
            s.due("value(0, 999)", sign * 999000000);
            s.due("greatest(0, 0, 1500, 0)", sign > 0 ? BOUND : 0);
            s.due("greatest(0, 0, 1500, 1)", sign > 0 ? 1000 : 0);
            s.due("greatest(0, 1001, 1500, 1)", 1001);
            s.due("slope(0, 1001)", sign * (BOUND - 4000000));
            s.due("slope(0, 1250)", 0);
            s.due("slope(0, 1500)", -sign * BOUND);
        }
    }

    private static void slopeWithinAStep() {
        TALLY.part("and its slope .., held");
        for (int sign = -1; sign <= 1; sign += 2) {
            // K = 0 and L = 2000000000: the slope at e is e * 100000000.
            Calls s = steep(sign);
            s.all("delay(1, 21, 0)");
            s.right(1, "x'@1");
            s.due("solve(20)", 20);
            s.due("step(0, 3)", 0);
            s.due("value(1, 20)", sign * 20000000);
            s.due("slope(1, 1)", sign * 100000000);
            s.due("slope(1, 9)", sign * 900000000);
            s.due("slope(1, 10)", sign * BOUND);
            s.due("slope(1, 11)", sign * BOUND);
            s.due("slope(1, 20)", sign * BOUND);
            s.due("value(1, 10)", sign * 5000000);
        }
    }

    private static void differenceOfSteps() {
        TALLY.part("19: the greatest size of a difference, held");
        // It turns from bound to bound, and the length of the steps tells where it is at the end.
        Calls s = swinging(100);
        boolean wasHeld = false;
        for (int step : new int[] {20, 25, 40, 50, 80, 100, 125, 200, 250, 400, 500}) {
            Calls other = swinging(step);
            long most = 0;
            for (int v = 0; v <= 2; v++) {
                long difference = (long) s.ask("value(" + v + ", 8000)") - other.ask("value(" + v + ", 8000)");
                most = Math.max(most, Math.abs(difference));
            }
            wasHeld |= most > BOUND;
            s.due("differs(" + step + ")", Math.min(BOUND, most));
        }
        TALLY.due("one of them was held", wasHeld ? 1 : 0, 1);
    }

    private static Calls swinging(int step) {
        Calls s = new Calls(TALLY, "point(0, 0, 1000000) set(0, " + step + ")");
        s.right(0, "-5*y+x");
        s.right(1, "5*x+y");
        s.all("solve(2000) solve(2000) solve(2000) solve(2000)");
        return s;
    }

    // ---- quotients

    private static void quotientsByZero() {
        TALLY.part("a quotient by 0 is 0");
        due("1/0", 0);
        due("-1/0", 0);
        due("0/0", 0);
        due("x*x/0", 0);
        due("x*y/0", 0);
        due("1/z", 0);
        due("1/(x-x)", 0);
        due("1/(0.001*0.001)", 0);
        due("1/0+5", 5000);
        due("1/0/0", 0);
        due("1/0*5", 0);
        due("5-1/-0", 5000);
        due("1/t", 0);
        due("1/0.001", 1000000);
        due("1/-0.001", -1000000);
        Calls s = new Calls(TALLY);
        s.right(0, "1/t");
        s.due("solve(20)", 20);
        s.due("step(0, 2)", 0);
        s.due("rightAt(0, 1)", 1000000);
        // K = 0, L = 50000.
        s.due("value(0, 20)", 500);
    }

    private static void cutOffInRightSides() {
        TALLY.part("all quotients are rounded toward 0: products and quotients");
        due("0.001*0.999", 0);
        due("-0.001*0.999", 0);
        due("0.001*-0.999", 0);
        due("0.003*0.999", 2);
        due("-0.003*0.999", -2);
        due("-0.003*-0.999", 2);
        due("2/3", 666);
        due("-2/3", -666);
        due("2/-3", -666);
        due("-2/-3", 666);
        due("-1/9999", 0);
        due("1/9999", 0);
        due("1/1000", 1);
        due("1/1000.001", 0);
        due("-1/1000.001", 0);
        due("x/7", 142857);
        due("y/7", -142857);
    }

    private static void cutOffInHistoriesAndLags() {
        TALLY.part("all quotients are rounded toward 0: histories");
        Calls s = new Calls(TALLY, "point(0, -7, 10) point(0, -4, 0) point(1, -7, 0) point(1, -4, 10)"
                + " point(2, -7, 0) point(2, -4, -10)");
        int[][] values = {{10, 0, 0}, {7, 3, -3}, {4, 6, -6}, {0, 10, -10}};
        for (int v = 0; v <= 2; v++) {
            for (int n = 0; n <= 3; n++) {
                s.due("value(" + v + ", " + (n - 7) + ")", values[n][v]);
            }
        }
        s.due("slope(0, -7)", -3333);
        s.due("slope(1, -6)", 3333);
        s.due("slope(2, -5)", -3333);
        s = new Calls(TALLY, "point(0, -10000, 0) point(0, -8999, 1) point(1, -10000, 0) point(1, -8999, -1)");
        s.due("slope(0, -9000)", 0);
        s.due("slope(1, -9000)", 0);
        TALLY.part("all quotients are rounded toward 0: lags");
        s = new Calls(TALLY, "delay(0, 10, 3) delay(1, 10, -3) delay(2, 1, -1)");
        s.due("lag(0, 333)", 10);
        s.due("lag(0, 334)", 11);
        s.due("lag(1, 333)", 10);
        s.due("lag(1, 334)", 9);
        s.due("lag(1, 3333)", 1);
        s.due("lag(1, 3334)", 0);
        s.due("lag(2, 999)", 1);
        s.due("lag(2, 1000)", 0);
        TALLY.part("the lag is 0 at least");
        s.due("lag(1, 8000)", 0);
        s.due("lag(2, 1999)", 0);
        s.due("lag(2, 2000)", 0);
        s.due("lag(2, 8000)", 0);
    }

    private static void cutOffInTheFirstGuess() {
        TALLY.part("all quotients are rounded toward 0: steps 2");
        for (int sign = -1; sign <= 1; sign += 2) {
            // K * h / 1000 is 1.5 (or -1.5); y tells it by L, which is 1000 times the guess.
            Calls s = new Calls(TALLY);
            s.right(0, minus(sign) + "0.015");
            s.right(1, "1000*x");
            s.due("solve(100)", 100);
            s.due("value(1, 100)", sign * 50);
        }
    }

    private static void cutOffInTheLine() {
        TALLY.part("all quotients are rounded toward 0: steps 3");
        for (int sign = -1; sign <= 1; sign += 2) {
            // The guess at 100 is 3, so x at 50 is 1.5; y tells it by L.
            Calls s = new Calls(TALLY, "set(2, 0) set(1, 0) delay(0, 50, 0)");
            s.right(0, minus(sign) + "0.03");
            s.right(1, "1000*x@0");
            s.due("solve(100)", 100);
            s.due("value(1, 100)", sign * 50);
            // The guess at 30 is 1, so the slope of the line is 33.33.
            s = new Calls(TALLY, "set(2, 0) set(1, 0) delay(0, 10, 0)");
            s.right(0, minus(sign) + "0.05");
            s.right(1, "1000*x'@0");
            s.due("solve(30)", 30);
            s.due("value(1, 30)", sign * 495);
        }
    }

    private static void cutOffInTheSecondGuess() {
        TALLY.part("all quotients are rounded toward 0: steps 4");
        for (int sign = -1; sign <= 1; sign += 2) {
            Calls s = new Calls(TALLY);
            s.right(0, minus(sign) + "0.015");
            s.right(1, minus(sign) + "0.009");
            s.right(2, minus(sign) + "t*0.19");
            s.due("solve(100)", 100);
            s.due("value(0, 100)", sign);
            s.due("value(1, 100)", 0);
            // K = 0, L = 19: 0.95.
            s.due("value(2, 100)", 0);
            s.due("solve(100)", 200);
            s.due("value(0, 200)", sign * 2);
            s.due("value(1, 200)", 0);
            s.due("step(1, 4)", sign * 19);
            // K = 19, L = 38: 2.85.
            s.due("value(2, 200)", sign * 2);
        }
    }

    private static void cutOffWithinAStep() {
        TALLY.part("all quotients are rounded toward 0: between the ends of a step");
        for (int sign = -1; sign <= 1; sign += 2) {
            // K * h / 1000 is 1.5, Y is 1, so A is 0.
            Calls s = new Calls(TALLY);
            s.right(0, minus(sign) + "0.015");
            s.due("solve(100)", 100);
            s.due("value(0, 66)", 0);
            s.due("value(0, 67)", sign);
            s.due("value(0, 99)", sign);
            s.due("slope(0, 1)", sign * 15);
            s.due("slope(0, 100)", sign * 15);
            // K = 0, L = 100, A = Y = 5: e * e / 2000.
            s = new Calls(TALLY);
            s.right(0, minus(sign) + "t");
            s.due("solve(100)", 100);
            s.due("value(0, 44)", 0);
            s.due("value(0, 45)", sign);
            s.due("value(0, 63)", sign);
            s.due("value(0, 64)", sign * 2);
            s.due("value(0, 99)", sign * 4);
            s.due("value(0, 100)", sign * 5);
            // K = 0, L = 300, A = Y = 4 (4.5): the slope is 2000 * 4 * e / 900.
            s = new Calls(TALLY);
            s.right(0, minus(sign) + "t*10");
            s.due("solve(30)", 30);
            s.due("value(0, 30)", sign * 4);
            s.due("slope(0, 1)", sign * 8);
            s.due("slope(0, 2)", sign * 17);
            s.due("slope(0, 30)", sign * 266);
            s.due("value(0, 14)", 0);
            s.due("value(0, 15)", sign);
            s.due("value(0, 29)", sign * 3);
            // Both quotients are rounded, each alone: K = 15, L = 115, Y = 6.5, A = 6 - 1.
            s = new Calls(TALLY);
            s.right(0, minus(sign) + "0.015" + (sign < 0 ? "-t" : "+t"));
            s.due("solve(100)", 100);
            s.due("value(0, 100)", sign * 6);
            // 50: 0.75 and 1.25; 70: 1.05 and 2.45; 99: 1.485 and 4.9.
            s.due("value(0, 50)", sign);
            s.due("value(0, 70)", sign * 3);
            s.due("value(0, 99)", sign * 5);
        }
    }

    private static String minus(int sign) {
        return sign < 0 ? "-" : "";
    }
}
