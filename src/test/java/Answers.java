/** Counts and prints the answers of one test that are not as due. */
final class Answers {
    private int asked = 0;
    private int wrong = 0;

    void due(String call, long got, long want) {
        asked++;
        if (got != want) {
            wrong++;
            System.out.println(call + " answered " + got + ", due is " + want);
        }
    }

    void due(String call, boolean got, boolean want) {
        due(call, got ? 1L : 0L, want ? 1L : 0L);
    }

    /** Runs the test of one sentence of the document; tells the sentence if it does not hold. */
    void test(String sentence, Runnable test) {
        int before = wrong;
        try {
            test.run();
        } catch (RuntimeException thrown) {
            wrong++;
            System.out.println("a call threw " + thrown);
        }
        if (wrong != before) {
            System.out.println("BROKEN: " + sentence);
        }
    }

    int wrong() {
        return wrong;
    }

    /** The test's last line: ends the program with exit code 1 if an answer was wrong. */
    void close() {
        System.out.println(wrong == 0 ? asked + " answers are as due" : wrong + " of " + asked + " answers are not as due");
        if (wrong != 0) {
            System.exit(1);
        }
    }
}
