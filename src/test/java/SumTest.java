/** Promise 9: sum. */
public final class SumTest {
    public static void main(String[] args) {
        Check check = new Check("sum");
        beforeSend(check);
        growsInOrder(check);
        greatest(check);
        check.end();
    }

    private static void beforeSend(Check check) {
        PyramidSender sender = new PyramidSender();
        sender.ramp(255, 0, 0);
        check.due("sum() before send", sender.sum(), 0);
        sender.receive(81);
        check.due("sum() after a refused receive", sender.sum(), 0);
    }

    private static void growsInOrder(Check check) {
        PyramidSender sender = new PyramidSender();
        sender.ramp(3, 1, 9);
        sender.send();
        sender.ramp(200, 0, 0);
        for (int received = 0; received <= 81; received++) {
            int want = 0;
            for (int place = 0; place < 81; place++) {
                if (Ranks.BY_ROW[place / 9][place % 9] < received) {
                    want += 3 + place;
                }
            }
            check.due("sum() after " + received, sender.sum(), want);
            sender.receive(1);
        }
    }

    private static void greatest(Check check) {
        PyramidSender sender = new PyramidSender();
        sender.ramp(255, 0, 0);
        sender.send();
        check.due("sum() at 0 received", sender.sum(), 0);
        sender.receive(81);
        check.due("sum() of all 255", sender.sum(), 81 * 255);
        check.due("sum() asked again", sender.sum(), 81 * 255);
    }
}
