/** Counts the answers that are not the due ones, prints each, and ends the test with exit code 1 if there was one. */
final class Checks {
    /** One broken sentence can make thousands of answers wrong; the first ones tell enough. */
    private static final int MOST_PRINTED = 20;

    private String sentence = "";
    private int asked = 0;
    private int wrong = 0;
    private int wrongInSentence = 0;

    /** A test of its own for a sentence of the document: one that throws is wrong, and the others still run. */
    void sentence(String words, Runnable test) {
        sentence = "[" + words + "] ";
        wrongInSentence = 0;
        try {
            test.run();
        } catch (RuntimeException thrown) {
            isWrong("threw " + thrown + " at " + thrown.getStackTrace()[0]);
        }
        sentence = "";
    }

    void due(String call, long got, long want) {
        asked++;
        if (got != want) {
            isWrong(call + " answered " + got + ", due is " + want);
        }
    }

    void holds(String what, boolean itHolds) {
        asked++;
        if (!itHolds) {
            isWrong("does not hold: " + what);
        }
    }

    private void isWrong(String line) {
        wrong++;
        wrongInSentence++;
        if (wrongInSentence <= MOST_PRINTED) {
            System.out.println(sentence + line);
        } else if (wrongInSentence == MOST_PRINTED + 1) {
            System.out.println(sentence + "and more");
        }
    }

    int wrong() {
        return wrong;
    }

    void end() {
        System.out.println(asked + " checks, " + wrong + " wrong");
        if (wrong != 0) {
            System.exit(1);
        }
    }
}
