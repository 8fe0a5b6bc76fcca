/** Counts answers that are not as due, and ends the program with exit code 1 if there was one. */
final class Tally {
    private int asked;
    private int wrong;
    private String part = "";

    void part(String name) {
        part = name;
    }

    void due(String call, long got, long want) {
        asked++;
        if (got != want) {
            wrong++;
            if (wrong <= 50) {
                System.out.println(part + ": " + call + " answered " + got + ", due is " + want);
            }
        }
    }

    void fail(String what) {
        asked++;
        wrong++;
        System.out.println(part + ": " + what);
    }

    boolean isClean() {
        return wrong == 0;
    }

    void end(String test) {
        System.out.println(test + ": " + asked + " answers, " + wrong + " wrong");
        if (wrong != 0 || asked == 0) {
            System.exit(1);
        }
    }
}
