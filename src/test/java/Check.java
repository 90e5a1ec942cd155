/** Collects the answers of one test, sentence by sentence, and ends it with exit code 1 if one was not due. */
final class Check {
    private final String test;
    private String sentence = null;
    private int asked = 0;
    private int wrong = 0;
    private int failed = 0;
    private int passed = 0;

    Check(String test) {
        this.test = test;
    }

    /** The answers from here on speak for this sentence, until the next one is named. */
    void sentence(String words) {
        close();
        sentence = words;
    }

    void due(String call, long got, long want) {
        asked++;
        if (got != want) {
            wrong++;
            System.out.println(test + ": " + call + " answered " + got + ", due is " + want);
        }
    }

    void end() {
        close();
        if (failed != 0 || passed == 0) {
            System.out.println(test + ": " + failed + " failed, " + passed + " passed");
            System.exit(1);
        }
    }

    private void close() {
        if (sentence == null && asked == 0) {
            return;
        }
        // A sentence that nothing was asked about isn't held by anything.
        boolean holds = asked > 0 && wrong == 0 && sentence != null;
        System.out.println((holds ? "ok   " : "FAIL ") + test + ": " + sentence + " (" + asked + " answers)");
        if (holds) {
            passed++;
        } else {
            failed++;
        }
        asked = 0;
        wrong = 0;
    }
}
