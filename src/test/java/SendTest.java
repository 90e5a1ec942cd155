/** Promise 4: send. */
public final class SendTest {
    public static void main(String[] args) {
        Check check = new Check("send");
        isACopy(check);
        startsReceivingAnew(check);
        leavesTheDrawnPicture(check);
        check.end();
    }

    private static void isACopy(Check check) {
        PyramidSender sender = new PyramidSender();
        sender.ramp(3, 1, 9);
        sender.send();
        check.due("draw(0, 0, 90)", sender.draw(0, 0, 90), 3);
        check.due("receive(1)", sender.receive(1), 1);
        check.due("pixel(0, 0)", sender.pixel(0, 0), 3);
        check.due("draw(8, 0, 91)", sender.draw(8, 0, 91), 11);
        check.due("receive(80)", sender.receive(80), 81);
        check.due("pixel(8, 0)", sender.pixel(8, 0), 11);
        check.due("sum()", sender.sum(), 81 * 43);
        sender.send();
        check.due("receive(2)", sender.receive(2), 2);
        check.due("pixel(0, 0) sent again", sender.pixel(0, 0), 90);
        check.due("pixel(8, 0) sent again", sender.pixel(8, 0), 91);
    }

    private static void startsReceivingAnew(Check check) {
        int[] before = {0, 1, 40, 81};
        for (int received : before) {
            PyramidSender sender = new PyramidSender();
            sender.ramp(5, 0, 0);
            sender.send();
            check.due("receive(" + received + ")", sender.receive(received), received);
            sender.send();
            check.due("pixel(0, 0)", sender.pixel(0, 0), -1);
            check.due("sum()", sender.sum(), 0);
            check.due("count(0, 255)", sender.count(0, 255), 0);
            check.due("receive(0)", sender.receive(0), 0);
            check.due("receive(3)", sender.receive(3), 3);
            check.due("sum()", sender.sum(), 15);
        }
    }

    private static void leavesTheDrawnPicture(Check check) {
        PyramidSender sender = new PyramidSender();
        sender.ramp(3, 1, 9);
        sender.send();
        sender.send();
        for (int y = 0; y < 9; y++) {
            for (int x = 0; x < 9; x++) {
                check.due("draw(" + x + ", " + y + ", 0)", sender.draw(x, y, 0), 3 + x + 9 * y);
            }
        }
    }
}
