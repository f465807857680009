/** Counts the answers that are not as due, and prints each. */
final class Check {
    private int checks;
    private int wrong;

    void same(String what, long got, long due) {
        checks++;
        if (got != due) {
            wrong++;
            System.out.println(what + " answered " + got + ", due is " + due);
        }
    }

    void holds(String what, boolean so) {
        checks++;
        if (!so) {
            wrong++;
            System.out.println(what + " does not hold");
        }
    }

    /** Ends the test: with 1 if an answer was not as due, or if none was looked at. */
    void end() {
        System.out.println(checks + " answers, " + wrong + " of them not as due");
        if (wrong != 0 || checks == 0) {
            System.exit(1);
        }
    }
}
