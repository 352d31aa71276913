/** Counts answers that are not the ones that are due, and prints them. */
final class Check {
    private final String where;
    private int looked = 0;
    private int wrong = 0;

    Check(String where) {
        this.where = where;
    }

    void due(String call, long got, long want) {
        looked++;
        if (got != want) {
            wrong++;
            System.out.println(where + ": " + call + " answered " + got + ", due is " + want);
        }
    }

    void holds(String what, boolean held) {
        looked++;
        if (!held) {
            wrong++;
            System.out.println(where + ": " + what + " does not hold");
        }
    }

    int wrong() {
        return wrong;
    }

    /** Ends the program: with 1 if an answer was wrong, or none was looked at. */
    void end() {
        System.out.println(where + ": " + looked + " answers, " + wrong + " not as due");
        System.exit(wrong == 0 && looked > 0 ? 0 : 1);
    }
}
