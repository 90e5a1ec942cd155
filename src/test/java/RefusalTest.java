/** Promise 10: a call that is refused changes nothing; nor does one that only asks. */
public final class RefusalTest {
    public static void main(String[] args) {
        Check check = new Check("refusals");
        beforeSend(check);
        int[] receivedCases = {0, 1, 30, 81};
        for (int received : receivedCases) {
            afterSend(check, received);
        }
        check.end();
    }

    private static void beforeSend(Check check) {
        PyramidSender sender = new PyramidSender();
        sender.ramp(60, 1, 9);
        check.due("receive(7)", sender.receive(7), -1);
        refusedEverywhere(check, sender);
        check.due("pixel(0, 0)", sender.pixel(0, 0), -1);
        check.due("receive(0)", sender.receive(0), -1);
        check.due("sum()", sender.sum(), 0);
        sender.send();
        check.due("receive(0) after send", sender.receive(0), 0);
        check.drawnIs("after refusals before send", sender, rampByRow(60));
    }

    /** The drawn and the sent picture differ, so that a mix-up of both would show. */
    private static void afterSend(Check check, int received) {
        PyramidSender sender = new PyramidSender();
        sender.ramp(60, 1, 9);
        sender.send();
        sender.receive(received);
        sender.ramp(90, 1, 9);
        refusedEverywhere(check, sender);
        check.due("receive(0)", sender.receive(0), received);
        for (int y = 0; y < 9; y++) {
            for (int x = 0; x < 9; x++) {
                int want = Ranks.BY_ROW[y][x] < received ? 60 + x + 9 * y : -1;
                check.due("pixel(" + x + ", " + y + ") after refusals", sender.pixel(x, y), want);
                check.due("rank(" + x + ", " + y + ") after refusals", sender.rank(x, y), Ranks.BY_ROW[y][x]);
            }
        }
        check.drawnIs("after refusals after send", sender, rampByRow(90));
    }

    private static void refusedEverywhere(Check check, PyramidSender sender) {
        for (int out : Check.OUTSIDE) {
            check.due("draw(" + out + ", 0, 1)", sender.draw(out, 0, 1), -1);
            check.due("draw(8, " + out + ", 1)", sender.draw(8, out, 1), -1);
            check.due("pixel(" + out + ", 0)", sender.pixel(out, 0), -1);
            check.due("pixel(8, " + out + ")", sender.pixel(8, out), -1);
            check.due("rank(" + out + ", 0)", sender.rank(out, 0), -1);
            check.due("rank(8, " + out + ")", sender.rank(8, out), -1);
        }
        sender.count(0, 255);
        sender.sum();
    }

    private static int[][] rampByRow(int base) {
        int[][] rows = new int[9][9];
        for (int y = 0; y < 9; y++) {
            for (int x = 0; x < 9; x++) {
                rows[y][x] = base + x + 9 * y;
            }
        }
        return rows;
    }
}
