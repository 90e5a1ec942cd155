/** Promise 4: send. */
public final class SendTest {
    public static void main(String[] args) {
        Check check = new Check("send");
        check.sentence("\"The sent picture becomes a copy of the drawn one\", which later drawing leaves");
        laterDrawingLeavesIt(check);
        check.sentence("\"The sent picture becomes a copy of the drawn one\", each time anew and wholly");
        replacesTheOneBefore(check);
        check.sentence("\"The sent picture becomes a copy of the drawn one\", also where nothing is drawn yet");
        sendsTheEmptyPicture(check);
        check.sentence("\"The sent picture becomes a copy of the drawn one\", the drawn one stays");
        leavesTheDrawnPicture(check);
        int[] before = {0, 1, 40, 80, 81};
        for (int received : before) {
            check.sentence("\"0 pixels are received\", where " + received + " were before");
            startsReceivingAnew(check, received);
        }
        check.end();
    }

    private static void laterDrawingLeavesIt(Check check) {
        PyramidSender sender = new PyramidSender();
        sender.ramp(20, 1, 9);
        sender.send();
        check.due("draw(0, 0, 90)", sender.draw(0, 0, 90), 20);
        check.due("receive(1)", sender.receive(1), 1);
        check.due("pixel(0, 0)", sender.pixel(0, 0), 20);
        check.due("draw(8, 8, 91)", sender.draw(8, 8, 91), 100);
        sender.receive(80);
        Picture.shownIs(check, "drawn after send", sender, Picture.numbered(20), 81);
        sender.ramp(0, 0, 0);
        Picture.shownIs(check, "ramp after send", sender, Picture.numbered(20), 81);
    }

    private static void replacesTheOneBefore(Check check) {
        PyramidSender sender = new PyramidSender();
        for (int base = 10; base <= 40; base += 10) {
            sender.ramp(base, 1, 9);
            Picture.drawnIs(check, "sent with base " + base, sender, Picture.numbered(base));
        }
        sender.ramp(0, 0, 0);
        Picture.drawnIs(check, "sent all 0", sender, new int[9][9]);
    }

    private static void sendsTheEmptyPicture(Check check) {
        PyramidSender sender = new PyramidSender();
        sender.send();
        check.due("receive(0)", sender.receive(0), 0);
        check.due("receive(81)", sender.receive(81), 81);
        check.due("count(0, 0)", sender.count(0, 0), 81);
        Picture.shownIs(check, "nothing drawn", sender, new int[9][9], 81);
    }

    private static void leavesTheDrawnPicture(Check check) {
        PyramidSender sender = new PyramidSender();
        sender.ramp(3, 1, 9);
        sender.send();
        sender.send();
        for (int y = 0; y < 9; y++) {
            for (int x = 0; x < 9; x++) {
                check.due("draw(" + x + ", " + y + ", 0)", sender.draw(x, y, 0), 3 + x + 9 * y);
            }
        }
    }

    private static void startsReceivingAnew(Check check, int received) {
        PyramidSender sender = new PyramidSender();
        sender.ramp(5, 0, 0);
        sender.send();
        check.due("receive(" + received + ")", sender.receive(received), received);
        sender.send();
        check.due("sum()", sender.sum(), 0);
        check.due("count(0, 255)", sender.count(0, 255), 0);
        Picture.shownIs(check, "sent again", sender, new int[9][9], 0);
        check.due("receive(0)", sender.receive(0), 0);
        check.due("receive(3)", sender.receive(3), 3);
        check.due("sum()", sender.sum(), 15);
    }
}
