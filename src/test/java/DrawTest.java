/** Promise 2: draw. */
public final class DrawTest {
    public static void main(String[] args) {
        Check check = new Check("draw");
        answersTheValueBefore(check);
        keepsTheLowEightBits(check);
        everyPixelIsItsOwn(check);
        refusesOutside(check);
        check.end();
    }

    private static void answersTheValueBefore(Check check) {
        PyramidSender sender = new PyramidSender();
        check.due("draw(3, 5, 17)", sender.draw(3, 5, 17), 0);
        check.due("draw(3, 5, 18)", sender.draw(3, 5, 18), 17);
        check.due("draw(3, 5, 0)", sender.draw(3, 5, 0), 18);
        check.due("draw(3, 5, 255)", sender.draw(3, 5, 255), 0);
        check.due("draw(3, 5, 1)", sender.draw(3, 5, 1), 255);
        check.due("draw(5, 3, 1)", sender.draw(5, 3, 1), 0);
        sender.ramp(40, 1, 10);
        check.due("draw(2, 3, 9) after ramp", sender.draw(2, 3, 9), 72);
        sender.send();
        check.due("draw(2, 3, 8) after send", sender.draw(2, 3, 8), 9);
        check.due("draw(2, 3, 7) after send", sender.draw(2, 3, 7), 8);
    }

    private static void keepsTheLowEightBits(Check check) {
        PyramidSender sender = new PyramidSender();
        int[] values = {256, 257, 511, -1, -255, -256, -257, 1000, Integer.MAX_VALUE, Integer.MIN_VALUE};
        int[] kept = {0, 1, 255, 255, 1, 0, 255, 232, 255, 0};
        int before = 0;
        for (int i = 0; i < values.length; i++) {
            check.due("draw(8, 8, " + values[i] + ")", sender.draw(8, 8, values[i]), before);
            before = kept[i];
        }
        check.due("draw(8, 8, 0) at the end", sender.draw(8, 8, 0), before);
    }

    private static void everyPixelIsItsOwn(Check check) {
        PyramidSender sender = new PyramidSender();
        int[][] want = new int[9][9];
        for (int y = 0; y < 9; y++) {
            for (int x = 0; x < 9; x++) {
                want[y][x] = 1 + x * 9 + y;
                check.due("draw(" + x + ", " + y + ")", sender.draw(x, y, want[y][x]), 0);
            }
        }
        check.drawnIs("all drawn", sender, want);
    }

    private static void refusesOutside(Check check) {
        PyramidSender sender = new PyramidSender();
        sender.ramp(1, 1, 9);
        for (int out : Check.OUTSIDE) {
            for (int in = 0; in < 9; in += 4) {
                check.due("draw(" + out + ", " + in + ", 250)", sender.draw(out, in, 250), -1);
                check.due("draw(" + in + ", " + out + ", 250)", sender.draw(in, out, 250), -1);
            }
            check.due("draw(" + out + ", " + out + ", 250)", sender.draw(out, out, 250), -1);
        }
        int[][] want = new int[9][9];
        for (int y = 0; y < 9; y++) {
            for (int x = 0; x < 9; x++) {
                want[y][x] = 1 + x + 9 * y;
            }
        }
        check.drawnIs("after refused draws", sender, want);
    }
}
