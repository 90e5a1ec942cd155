/** Collects the answers of one test and ends it with exit code 1 if one was not due. */
final class Check {
    static final int[] OUTSIDE = {-1, 9, 10, -9, 256, Integer.MIN_VALUE, Integer.MAX_VALUE};

    private final String test;
    private int asked = 0;
    private int wrong = 0;

    Check(String test) {
        this.test = test;
    }

    void due(String call, long got, long want) {
        asked++;
        if (got != want) {
            wrong++;
            System.out.println(test + ": " + call + " answered " + got + ", due is " + want);
        }
    }

    void end() {
        if (asked == 0) {
            System.out.println(test + ": nothing was checked");
            System.exit(1);
        }
        if (wrong != 0) {
            System.out.println(test + ": " + wrong + " of " + asked + " answers are not as due");
            System.exit(1);
        }
        System.out.println(test + ": all " + asked + " answers are as due");
    }

    /** Sends what is drawn and compares all of it; takes 83 of the object's 512 calls. */
    void drawnIs(String when, PyramidSender sender, int[][] wantByRow) {
        sender.send();
        due(when + ": receive(81)", sender.receive(81), 81);
        for (int y = 0; y < 9; y++) {
            for (int x = 0; x < 9; x++) {
                due(when + ": pixel(" + x + ", " + y + ")", sender.pixel(x, y), wantByRow[y][x]);
            }
        }
    }
}
