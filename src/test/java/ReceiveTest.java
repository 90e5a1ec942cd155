/** Promise 5: receive. */
public final class ReceiveTest {
    private static final int MIN = Integer.MIN_VALUE;
    private static final int MAX = Integer.MAX_VALUE;

    public static void main(String[] args) {
        Check check = new Check("receive");
        refusesBeforeSend(check);
        addsUp(check);
        oneAtATime(check);
        limitsTheCount(check);
        check.end();
    }

    private static void refusesBeforeSend(Check check) {
        PyramidSender sender = new PyramidSender();
        int[] counts = {0, 1, -1, 81, 82, MIN, MAX};
        for (int count : counts) {
            check.due("receive(" + count + ") before send", sender.receive(count), -1);
        }
        sender.ramp(1, 1, 1);
        check.due("receive(4) after ramp alone", sender.receive(4), -1);
        sender.send();
        check.due("receive(0) after send", sender.receive(0), 0);
    }

    private static void addsUp(Check check) {
        PyramidSender sender = new PyramidSender();
        sender.send();
        check.due("receive(4)", sender.receive(4), 4);
        check.due("receive(5)", sender.receive(5), 9);
        check.due("receive(0)", sender.receive(0), 9);
        check.due("receive(-1)", sender.receive(-1), 9);
        check.due("receive(-9)", sender.receive(-9), 9);
        check.due("receive(MIN)", sender.receive(MIN), 9);
        check.due("receive(71)", sender.receive(71), 80);
        check.due("receive(1)", sender.receive(1), 81);
        check.due("receive(1)", sender.receive(1), 81);
        check.due("receive(-1)", sender.receive(-1), 81);
        check.due("receive(MIN)", sender.receive(MIN), 81);
        check.due("receive(MAX)", sender.receive(MAX), 81);
    }

    private static void oneAtATime(Check check) {
        PyramidSender sender = new PyramidSender();
        sender.ramp(1, 0, 0);
        sender.send();
        for (int i = 1; i <= 81; i++) {
            check.due("receive(1)", sender.receive(1), i);
            check.due("sum()", sender.sum(), i);
        }
    }

    private static void limitsTheCount(Check check) {
        int[] starts = {0, 1, 40, 80, 81};
        for (int start : starts) {
            int[] counts = {80 - start, 81 - start, 82 - start, 81, 82, MAX - start, MAX - start + 1, MAX, -start, MIN};
            for (int count : counts) {
                PyramidSender sender = new PyramidSender();
                sender.send();
                check.due("receive(" + start + ")", sender.receive(start), start);
                long want = Math.min(81L, start + Math.max(0L, count));
                check.due("receive(" + count + ") after " + start, sender.receive(count), want);
                check.due("count(0, 0)", sender.count(0, 0), want);
            }
        }
    }
}
