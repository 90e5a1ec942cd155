/** Promise 6: pixel. */
public final class PixelTest {
    public static void main(String[] args) {
        Check check = new Check("pixel");
        for (int received = 0; received <= 81; received++) {
            showsWhatHasCome(check, received);
        }
        refusesOutside(check);
        refusesBeforeSend(check);
        check.end();
    }

    private static void showsWhatHasCome(Check check, int received) {
        PyramidSender sender = new PyramidSender();
        sender.ramp(20, 1, 9);
        sender.send();
        sender.receive(received);
        for (int y = 0; y < 9; y++) {
            for (int x = 0; x < 9; x++) {
                int want = Ranks.BY_ROW[y][x] < received ? 20 + x + 9 * y : -1;
                check.due("pixel(" + x + ", " + y + ") after " + received, sender.pixel(x, y), want);
            }
        }
    }

    private static void refusesOutside(Check check) {
        PyramidSender sender = new PyramidSender();
        sender.ramp(20, 1, 9);
        sender.send();
        sender.receive(81);
        for (int out : Check.OUTSIDE) {
            for (int in = 0; in < 9; in += 4) {
                check.due("pixel(" + out + ", " + in + ")", sender.pixel(out, in), -1);
                check.due("pixel(" + in + ", " + out + ")", sender.pixel(in, out), -1);
            }
            check.due("pixel(" + out + ", " + out + ")", sender.pixel(out, out), -1);
        }
    }

    private static void refusesBeforeSend(Check check) {
        PyramidSender sender = new PyramidSender();
        sender.ramp(20, 1, 9);
        sender.receive(81);
        check.due("pixel(0, 0) before send", sender.pixel(0, 0), -1);
        check.due("pixel(8, 8) before send", sender.pixel(8, 8), -1);
        check.due("pixel(9, 8) before send", sender.pixel(9, 8), -1);
    }
}
