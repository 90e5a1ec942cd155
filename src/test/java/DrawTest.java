/** Promise 2: draw. */
public final class DrawTest {
    public static void main(String[] args) {
        Check check = new Check("draw");
        check.sentence("\"The drawn pixel becomes value & 255\", values from 0 to 255 stay as they are");
        keepsValuesInRange(check);
        check.sentence("\"The drawn pixel becomes value & 255\", values above 255");
        keepsLowBits(check, new int[] {256, 257, 511, 512, 1000, Integer.MAX_VALUE}, new int[] {0, 1, 255, 0, 232, 255});
        check.sentence("\"The drawn pixel becomes value & 255\", values below 0");
        keepsLowBits(check, new int[] {-1, -255, -256, -257, Integer.MIN_VALUE}, new int[] {255, 1, 0, 255, 0});
        check.sentence("\"The drawn pixel becomes value & 255\", that pixel and no other, neither sent nor received");
        everyPixelIsItsOwn(check);
        leavesTheSentPicture(check);
        check.sentence("\"Answers its value before\"");
        answersTheValueBefore(check);
        for (Outside kind : Outside.values()) {
            check.sentence("\"-1, and changes nothing, if x or y is not from 0 to 8\", " + kind.words);
            refuses(check, kind, Known.nothingSent());
            refuses(check, kind, Known.received(30));
        }
        check.end();
    }

    private static void keepsValuesInRange(Check check) {
        PyramidSender sender = new PyramidSender();
        for (int value = 0; value <= 255; value++) {
            int before = value == 0 ? 0 : value - 1;
            check.due("draw(4, 4, " + value + ")", sender.draw(4, 4, value), before);
        }
        check.due("draw(4, 4, 0)", sender.draw(4, 4, 0), 255);
    }

    private static void keepsLowBits(Check check, int[] values, int[] kept) {
        for (int i = 0; i < values.length; i++) {
            PyramidSender sender = new PyramidSender();
            check.due("draw(0, 0, " + values[i] + ")", sender.draw(0, 0, values[i]), 0);
            sender.send();
            sender.receive(1);
            check.due("pixel(0, 0) of " + values[i], sender.pixel(0, 0), kept[i]);
            check.due("draw(0, 0, 0) after " + values[i], sender.draw(0, 0, 0), kept[i]);
        }
    }

    private static void everyPixelIsItsOwn(Check check) {
        PyramidSender sender = new PyramidSender();
        int[][] want = new int[9][9];
        for (int y = 0; y < 9; y++) {
            for (int x = 0; x < 9; x++) {
                want[y][x] = 1 + x * 9 + y;
                check.due("draw(" + x + ", " + y + ")", sender.draw(x, y, want[y][x]), 0);
            }
        }
        Picture.drawnIs(check, "all drawn", sender, want);
    }

    private static void leavesTheSentPicture(Check check) {
        PyramidSender sender = new PyramidSender();
        sender.ramp(20, 1, 9);
        sender.send();
        sender.receive(30);
        for (int y = 0; y < 9; y++) {
            for (int x = 0; x < 9; x++) {
                sender.draw(x, y, 200);
            }
        }
        check.due("receive(0) after draws", sender.receive(0), 30);
        Picture.shownIs(check, "after draws", sender, Picture.numbered(20), 30);
        sender.receive(81);
        Picture.shownIs(check, "after draws, whole picture", sender, Picture.numbered(20), 81);
    }

    private static void answersTheValueBefore(Check check) {
        PyramidSender sender = new PyramidSender();
        check.due("draw(3, 5, 17) on a new object", sender.draw(3, 5, 17), 0);
        check.due("draw(3, 5, 17)", sender.draw(3, 5, 17), 17);
        check.due("draw(3, 5, 0)", sender.draw(3, 5, 0), 17);
        check.due("draw(3, 5, 255)", sender.draw(3, 5, 255), 0);
        check.due("draw(3, 5, 1)", sender.draw(3, 5, 1), 255);
        check.due("draw(5, 3, 1)", sender.draw(5, 3, 1), 0);
        sender.ramp(40, 1, 10);
        check.due("draw(2, 3, 9) after ramp", sender.draw(2, 3, 9), 72);
        sender.send();
        check.due("draw(2, 3, 8) after send", sender.draw(2, 3, 8), 9);
        check.due("draw(2, 3, 7) after send", sender.draw(2, 3, 7), 8);
    }

    private static void refuses(Check check, Outside kind, Known known) {
        for (int[] place : kind.places()) {
            String call = "draw(" + place[0] + ", " + place[1] + ", 250)";
            check.due(call, known.sender.draw(place[0], place[1], 250), -1);
        }
        known.isUnchanged(check, "after draw with " + kind.words);
    }
}
