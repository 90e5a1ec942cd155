/** Promise 5: receive. */
public final class ReceiveTest {
    private static final int MIN = Integer.MIN_VALUE;
    private static final int MAX = Integer.MAX_VALUE;

    public static void main(String[] args) {
        Check check = new Check("receive");
        check.sentence("\"Receives the next count pixels in the order\", one by one");
        oneByOne(check);
        check.sentence("\"Receives the next count pixels in the order\", several at once");
        severalAtOnce(check);
        check.sentence("\"Receives the next count pixels in the order\", none with a count of 0");
        changesNothing(check, 0);
        check.sentence("\"count below 0 is taken as 0\"");
        int[] below = {-1, -2, -30, -31, -80, -81, -82, -256, MIN + 1, MIN};
        for (int count : below) {
            changesNothing(check, count);
        }
        check.sentence("\"no more than there are left\", a count of all that are left or one fewer");
        upToTheLast(check);
        check.sentence("\"no more than there are left\", a count above what is left");
        beyondTheLast(check);
        check.sentence("\"no more than there are left\", none are left");
        noneLeft(check);
        check.sentence("\"Answers how many have been received in all\"");
        answersTheTotal(check);
        check.sentence("\"-1, and changes nothing, if no picture has been sent\"");
        refusesBeforeSend(check);
        check.end();
    }

    private static void oneByOne(Check check) {
        PyramidSender sender = new PyramidSender();
        sender.ramp(20, 1, 9);
        sender.send();
        for (int rank = 0; rank < 81; rank++) {
            int x = Ranks.xOf(rank);
            int y = Ranks.yOf(rank);
            String pixel = "pixel(" + x + ", " + y + ")";
            check.due(pixel + " before it comes", sender.pixel(x, y), -1);
            check.due("receive(1)", sender.receive(1), rank + 1);
            check.due(pixel + " as it has come", sender.pixel(x, y), 20 + x + 9 * y);
            check.due("count(0, 255)", sender.count(0, 255), rank + 1);
        }
    }

    private static void severalAtOnce(Check check) {
        PyramidSender sender = new PyramidSender();
        sender.ramp(20, 1, 9);
        sender.send();
        int[] counts = {3, 2, 20, 50};
        int received = 0;
        for (int count : counts) {
            received += count;
            check.due("receive(" + count + ")", sender.receive(count), received);
            Picture.shownIs(check, "after " + received, sender, Picture.numbered(20), received);
        }
    }

    private static void changesNothing(Check check, int count) {
        for (int received : Known.RECEIVED_CASES) {
            Known known = Known.received(received);
            check.due("receive(" + count + ") after " + received, known.sender.receive(count), received);
            known.isUnchanged(check, "after receive(" + count + ")");
        }
    }

    private static void upToTheLast(Check check) {
        for (int start = 0; start <= 80; start++) {
            comesTo(check, start, 80 - start, 80);
            comesTo(check, start, 81 - start, 81);
        }
    }

    /** MAX is more than the sum with what has come can hold. */
    private static void beyondTheLast(Check check) {
        for (int start = 0; start <= 80; start++) {
            int[] counts = {82 - start, 82, 256, 65536, MAX - start, MAX - start + (start == 0 ? 0 : 1), MAX};
            for (int count : counts) {
                comesTo(check, start, count, 81);
            }
        }
    }

    private static void noneLeft(Check check) {
        int[] counts = {0, 1, 80, 81, 82, MAX - 81, MAX - 80, MAX};
        for (int count : counts) {
            comesTo(check, 81, count, 81);
        }
    }

    private static void comesTo(Check check, int start, int count, int want) {
        PyramidSender sender = new PyramidSender();
        sender.ramp(1, 0, 0);
        sender.send();
        String when = " after " + start;
        check.due("receive(" + start + ")", sender.receive(start), start);
        check.due("receive(" + count + ")" + when, sender.receive(count), want);
        check.due("receive(0)" + when, sender.receive(0), want);
        check.due("count(1, 1)" + when, sender.count(1, 1), want);
        check.due("sum()" + when, sender.sum(), want);
        check.due("pixel(6, 8)" + when, sender.pixel(6, 8), want > 24 ? 1 : -1);
        check.due("pixel(7, 8)" + when, sender.pixel(7, 8), want > 80 ? 1 : -1);
    }

    private static void answersTheTotal(Check check) {
        PyramidSender sender = new PyramidSender();
        sender.send();
        check.due("receive(4)", sender.receive(4), 4);
        check.due("receive(5)", sender.receive(5), 9);
        check.due("receive(0)", sender.receive(0), 9);
        check.due("receive(-9)", sender.receive(-9), 9);
        check.due("receive(71)", sender.receive(71), 80);
        check.due("receive(2)", sender.receive(2), 81);
        check.due("receive(1)", sender.receive(1), 81);
        sender.send();
        check.due("receive(6) sent again", sender.receive(6), 6);
    }

    private static void refusesBeforeSend(Check check) {
        int[] counts = {0, 1, -1, 80, 81, 82, MIN, MAX};
        for (int count : counts) {
            check.due("receive(" + count + ") of a new object", new PyramidSender().receive(count), -1);
            Known known = Known.nothingSent();
            check.due("receive(" + count + ") of a drawn picture", known.sender.receive(count), -1);
            known.isUnchanged(check, "after refused receive(" + count + ")");
            nothingHasComeAfterSend(check, count);
        }
    }

    /** Where a refused receive was counted all the same, or asks for pixels in advance, it shows only after send. */
    private static void nothingHasComeAfterSend(Check check, int count) {
        PyramidSender sender = new PyramidSender();
        sender.ramp(20, 1, 9);
        sender.receive(count);
        sender.receive(count);
        check.due("sum() after refused receive(" + count + ")", sender.sum(), 0);
        sender.send();
        check.due("receive(0) after refused receive(" + count + ")", sender.receive(0), 0);
        Picture.shownIs(check, "after refused receive(" + count + ")", sender, Picture.numbered(20), 0);
    }
}
