/** Promise 9: sum. */
public final class SumTest {
    public static void main(String[] args) {
        Check check = new Check("sum");
        check.sentence("\"of all received pixels\", where nothing has been sent");
        beforeSend(check);
        check.sentence("\"of all received pixels\", where 0 are received");
        noneReceived(check);
        check.sentence("\"of all received pixels\", from the first to the last one");
        growsInOrder(check);
        check.sentence("\"The sum of the values\", the greatest and the least there can be");
        greatestAndLeast(check);
        check.sentence("\"The sum of the values\", by the sent picture");
        sumsTheSentPicture(check);
        check.end();
    }

    private static void beforeSend(Check check) {
        PyramidSender sender = new PyramidSender();
        check.due("sum() of a new object", sender.sum(), 0);
        sender.ramp(255, 0, 0);
        check.due("sum() before send", sender.sum(), 0);
        sender.receive(81);
        check.due("sum() after a refused receive", sender.sum(), 0);
    }

    private static void noneReceived(Check check) {
        PyramidSender sender = new PyramidSender();
        sender.ramp(255, 0, 0);
        sender.send();
        check.due("sum() at 0 received", sender.sum(), 0);
        sender.receive(0);
        check.due("sum() after receive(0)", sender.sum(), 0);
        sender.receive(-1);
        check.due("sum() after receive(-1)", sender.sum(), 0);
    }

    private static void growsInOrder(Check check) {
        PyramidSender sender = new PyramidSender();
        sender.ramp(3, 1, 9);
        sender.send();
        for (int received = 0; received <= 81; received++) {
            int want = Picture.sumOf(Picture.numbered(3), received);
            check.due("sum() after " + received, sender.sum(), want);
            sender.receive(1);
        }
    }

    private static void greatestAndLeast(Check check) {
        PyramidSender sender = new PyramidSender();
        sender.send();
        sender.receive(81);
        check.due("sum() of all 0", sender.sum(), 0);
        sender.ramp(255, 0, 0);
        sender.send();
        sender.receive(81);
        check.due("sum() of all 255", sender.sum(), 20655);
        check.due("sum() asked again", sender.sum(), 20655);
    }

    private static void sumsTheSentPicture(Check check) {
        PyramidSender sender = Known.received(81).sender;
        check.due("sum() drawn anew", sender.sum(), Picture.sumOf(Picture.numbered(20), 81));
    }
}
