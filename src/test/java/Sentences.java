/** Runs tests of which each holds one sentence of the document, and names the sentences that are broken. */
final class Sentences {
    private int held;
    private int broken;

    /** What is to hold if the sentence does. */
    interface Test {
        void hold(Check check);
    }

    void told(String sentence, Test test) {
        Check check = new Check();
        test.hold(check);
        if (check.isAsDue()) {
            held++;
        } else {
            broken++;
            System.out.println("broken: " + sentence);
        }
    }

    /** Ends the test: with 1 if a sentence is broken, or if there was none. */
    void end() {
        System.out.println(held + broken + " sentences, " + broken + " of them broken");
        if (broken != 0 || held == 0) {
            System.exit(1);
        }
    }
}
