/** Promise 8: count. */
public final class CountTest {
    private static final int MIN = Integer.MIN_VALUE;
    private static final int MAX = Integer.MAX_VALUE;
    private static final int[] BOUNDS = {MIN, -256, -1, 0, 1, 9, 10, 11, 50, 89, 90, 91, 127, 254, 255, 256, MAX};

    public static void main(String[] args) {
        Check check = new Check("count");
        nothingToCount(check);
        int[] receivedCases = {1, 4, 9, 25, 26, 80, 81};
        for (int received : receivedCases) {
            countsReceivedOnly(check, received);
        }
        bothBoundsBelong(check);
        check.end();
    }

    private static void nothingToCount(Check check) {
        PyramidSender sender = new PyramidSender();
        check.due("count(MIN, MAX) before send", sender.count(MIN, MAX), 0);
        sender.send();
        check.due("count(0, 0) at 0 received", sender.count(0, 0), 0);
        check.due("count(MIN, MAX) at 0 received", sender.count(MIN, MAX), 0);
    }

    private static void countsReceivedOnly(Check check, int received) {
        PyramidSender sender = new PyramidSender();
        sender.ramp(10, 1, 9);
        sender.send();
        sender.receive(received);
        sender.ramp(50, 0, 0);
        for (int low : BOUNDS) {
            for (int high : BOUNDS) {
                int want = 0;
                for (int place = 0; place < 81; place++) {
                    boolean has = Ranks.BY_ROW[place / 9][place % 9] < received;
                    if (has && 10 + place >= low && 10 + place <= high) {
                        want++;
                    }
                }
                check.due("count(" + low + ", " + high + ") after " + received, sender.count(low, high), want);
            }
        }
    }

    private static void bothBoundsBelong(Check check) {
        PyramidSender sender = new PyramidSender();
        sender.draw(0, 0, 255);
        sender.draw(8, 0, 100);
        sender.draw(0, 8, 100);
        sender.send();
        sender.receive(4);
        check.due("count(100, 100)", sender.count(100, 100), 2);
        check.due("count(255, 255)", sender.count(255, 255), 1);
        check.due("count(100, 255)", sender.count(100, 255), 3);
        check.due("count(101, 254)", sender.count(101, 254), 0);
        check.due("count(0, 0)", sender.count(0, 0), 1);
        check.due("count(255, 0)", sender.count(255, 0), 0);
        check.due("count(-1, -1), as unreceived pixels read", sender.count(-1, -1), 0);
    }
}
