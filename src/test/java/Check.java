/** Counts and prints the answers that are not the ones that are due. */
final class Check {
    private static int wrong = 0;

    private Check() {
    }

    static void due(String what, int got, int want) {
        if (got != want) {
            wrong++;
            System.out.println(what + " answered " + got + ", due is " + want);
        }
    }

    static void holds(String what, boolean it) {
        if (!it) {
            wrong++;
            System.out.println("does not hold: " + what);
        }
    }

    /** Ends the test: with exit code 1 if an answer was wrong. */
    static void end() {
        System.out.println(wrong == 0 ? "all answers are as due" : wrong + " answers are not as due");
        if (wrong != 0) {
            System.exit(1);
        }
    }
}
