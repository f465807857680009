/** Counts the answers that are not as due, and prints each. */
final class Check {
    private int checks;
    private int wrong;

    void same(String what, long got, long due) {
        checks++;
        if (got != due) {
            wrong++;
            System.out.println(what + " answered " + got + ", due is " + due);
        }
    }

    void holds(String what, boolean so) {
        checks++;
        if (!so) {
            wrong++;
            System.out.println(what + " does not hold");
        }
    }

    /** The cards from the top on, parted by blanks. */
    void order(String what, LacedPack pack, String due) {
        String got = Runs.order(pack);
        holds(what + ": " + got + " is " + due, got.equals(due));
    }

    /** If a text has a fault it can't be laid; if it has none, it can, but for an empty one. */
    void faultOf(String text, int due) {
        LacedPack pack = new LacedPack();
        Runs.write(pack, text);
        same("fault() of '" + text + "'", pack.fault(), due);
        int first = pack.lay();
        boolean isLaid = due == LacedPack.NONE && !text.isEmpty();
        holds("lay() of '" + text + "' answers " + first, isLaid ? first >= 2 : first == LacedPack.NO);
    }

    void noFault(String... texts) {
        for (String text : texts) {
            faultOf(text, LacedPack.NONE);
        }
    }

    /** Each text is one item that is not so, whatever stands ahead of it and behind it. */
    void faulty(String... texts) {
        for (String text : texts) {
            faultOf(text, 0);
            faultOf("n8;" + text, 3);
            faultOf(text + "n8;", 0);
        }
    }

    /** One was looked at, and none was wrong. */
    boolean isAsDue() {
        return checks != 0 && wrong == 0;
    }

    /** Ends the test: with 1 if an answer was not as due, or if none was looked at. */
    void end() {
        System.out.println(checks + " answers, " + wrong + " of them not as due");
        if (!isAsDue()) {
            System.exit(1);
        }
    }
}
