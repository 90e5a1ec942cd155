/** Promise 8: count. */
public final class CountTest {
    private static final int MIN = Integer.MIN_VALUE;
    private static final int MAX = Integer.MAX_VALUE;
    private static final int[] BOUNDS = {MIN, -256, -1, 0, 1, 9, 10, 11, 50, 89, 90, 91, 127, 254, 255, 256, MAX};

    public static void main(String[] args) {
        Check check = new Check("count");
        check.sentence("\"How many received pixels\", where nothing has been sent");
        countsNone(check, new PyramidSender());
        countsNone(check, Known.nothingSent().sender);
        check.sentence("\"How many received pixels\", where 0 are received");
        countsNone(check, Known.received(0).sender);
        check.sentence("\"How many received pixels\", from the first to the last one");
        countsEachAsItComes(check);
        check.sentence("\"How many received pixels\", by the values of the sent picture");
        countsTheSentPicture(check);
        check.sentence("\"at least low\", low itself belongs and one less doesn't");
        lowBelongs(check);
        check.sentence("\"at most high\", high itself belongs and one more doesn't");
        highBelongs(check);
        check.sentence("\"at least low and at most high\", low above high");
        lowAboveHigh(check);
        check.sentence("\"at least low and at most high\", beyond the values from 0 to 255");
        beyondTheValues(check);
        check.sentence("\"at least low and at most high\", all pairs of edges");
        int[] receivedCases = {1, 4, 9, 25, 26, 80, 81};
        for (int received : receivedCases) {
            countsAllPairs(check, received);
        }
        check.end();
    }

    private static void countsNone(Check check, PyramidSender sender) {
        check.due("count(0, 0)", sender.count(0, 0), 0);
        check.due("count(0, 255)", sender.count(0, 255), 0);
        check.due("count(MIN, MAX)", sender.count(MIN, MAX), 0);
        check.due("count(-1, -1)", sender.count(-1, -1), 0);
    }

    private static void countsEachAsItComes(Check check) {
        PyramidSender sender = new PyramidSender();
        sender.ramp(20, 1, 9);
        sender.send();
        for (int rank = 0; rank < 81; rank++) {
            int value = 20 + Ranks.xOf(rank) + 9 * Ranks.yOf(rank);
            check.due("count(" + value + ") before it comes", sender.count(value, value), 0);
            sender.receive(1);
            check.due("count(" + value + ") as it has come", sender.count(value, value), 1);
            check.due("count(0, 255) after " + (rank + 1), sender.count(0, 255), rank + 1);
        }
    }

    private static void countsTheSentPicture(Check check) {
        PyramidSender sender = Known.received(30).sender;
        check.due("count(20, 100)", sender.count(20, 100), 30);
        check.due("count(101, 255)", sender.count(101, 255), 0);
    }

    /** The corners hold 255, 100, 100 and 0. */
    private static PyramidSender corners() {
        PyramidSender sender = new PyramidSender();
        sender.draw(0, 0, 255);
        sender.draw(8, 0, 100);
        sender.draw(0, 8, 100);
        sender.send();
        sender.receive(4);
        return sender;
    }

    private static void lowBelongs(Check check) {
        PyramidSender sender = corners();
        check.due("count(99, 200)", sender.count(99, 200), 2);
        check.due("count(100, 200)", sender.count(100, 200), 2);
        check.due("count(101, 200)", sender.count(101, 200), 0);
        check.due("count(0, 50)", sender.count(0, 50), 1);
        check.due("count(1, 50)", sender.count(1, 50), 0);
        check.due("count(255, MAX)", sender.count(255, MAX), 1);
        check.due("count(256, MAX)", sender.count(256, MAX), 0);
    }

    private static void highBelongs(Check check) {
        PyramidSender sender = corners();
        check.due("count(50, 99)", sender.count(50, 99), 0);
        check.due("count(50, 100)", sender.count(50, 100), 2);
        check.due("count(50, 101)", sender.count(50, 101), 2);
        check.due("count(200, 254)", sender.count(200, 254), 0);
        check.due("count(200, 255)", sender.count(200, 255), 1);
        check.due("count(MIN, -1)", sender.count(MIN, -1), 0);
        check.due("count(MIN, 0)", sender.count(MIN, 0), 1);
    }

    private static void lowAboveHigh(Check check) {
        PyramidSender sender = corners();
        check.due("count(100, 100)", sender.count(100, 100), 2);
        check.due("count(101, 100)", sender.count(101, 100), 0);
        check.due("count(100, 99)", sender.count(100, 99), 0);
        check.due("count(255, 0)", sender.count(255, 0), 0);
        check.due("count(MAX, MIN)", sender.count(MAX, MIN), 0);
    }

    private static void beyondTheValues(Check check) {
        PyramidSender sender = corners();
        check.due("count(-1, 256)", sender.count(-1, 256), 4);
        check.due("count(MIN, MAX)", sender.count(MIN, MAX), 4);
        check.due("count(-1, 0)", sender.count(-1, 0), 1);
        check.due("count(255, 256)", sender.count(255, 256), 1);
        check.due("count(256, 511)", sender.count(256, 511), 0);
        check.due("count(-256, -1)", sender.count(-256, -1), 0);
        check.due("count(-1, -1), as pixels read that have not come", sender.count(-1, -1), 0);
    }

    private static void countsAllPairs(Check check, int received) {
        PyramidSender sender = new PyramidSender();
        sender.ramp(10, 1, 9);
        sender.send();
        sender.receive(received);
        sender.ramp(50, 0, 0);
        for (int low : BOUNDS) {
            for (int high : BOUNDS) {
                int want = 0;
                for (int place = 0; place < 81; place++) {
                    boolean has = Ranks.BY_ROW[place / 9][place % 9] < received;
                    if (has && 10 + place >= low && 10 + place <= high) {
                        want++;
                    }
                }
                check.due("count(" + low + ", " + high + ") after " + received, sender.count(low, high), want);
            }
        }
    }
}
