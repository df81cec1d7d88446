/** Counts and prints the calls of one test whose answer is not the one that is due. */
final class Check {
    private int asked;
    private int wrong;

    void due(String call, long got, long want) {
        asked++;
        if (got != want) {
            wrong++;
            System.out.println(call + " answered " + got + ", due is " + want);
        }
    }

    void holds(String what, boolean does) {
        asked++;
        if (!does) {
            wrong++;
            System.out.println(what + ": does not hold");
        }
    }

    boolean isClean() {
        return wrong == 0;
    }

    void end() {
        System.out.println(asked + " answers, " + wrong + " of them not as due");
        if (asked == 0 || wrong != 0) {
            System.exit(1);
        }
    }
}
