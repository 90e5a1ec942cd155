/** 'Terms', the pictures: their edges and the edges of their values. */
public final class PictureTest {
    public static void main(String[] args) {
        Check check = new Check("pictures");
        check.sentence("\"9 by 9 pixels (x, y), x and y from 0 to 8\", the pixels at the rim are inside");
        rimIsInside(check);
        for (Outside kind : Outside.values()) {
            check.sentence("\"9 by 9 pixels (x, y), x and y from 0 to 8\", nothing is outside, " + kind.words);
            nothingIsOutside(check, kind);
        }
        check.sentence("\"with values from 0 to 255\", both ends can be drawn, sent and read");
        bothEndsOfValues(check);
        check.sentence("the drawn picture is \"all 0 at the start\"");
        Picture.drawnIs(check, "new object", new PyramidSender(), new int[9][9]);
        check.sentence("the sent picture is \"a copy of the drawn one, made by send\"");
        onlySendMakesTheCopy(check);
        check.sentence("the sent picture is \"none at the start\"");
        check.due("receive(1) of a new object", new PyramidSender().receive(1), -1);
        check.due("pixel(0, 0) of a new object", new PyramidSender().pixel(0, 0), -1);
        check.end();
    }

    private static void rimIsInside(Check check) {
        PyramidSender sender = new PyramidSender();
        sender.ramp(20, 1, 9);
        sender.send();
        sender.receive(81);
        for (int y = 0; y < 9; y++) {
            for (int x = 0; x < 9; x++) {
                if (x == 0 || x == 8 || y == 0 || y == 8) {
                    String place = "(" + x + ", " + y + ")";
                    check.due("draw" + place, sender.draw(x, y, 0), 20 + x + 9 * y);
                    check.due("pixel" + place, sender.pixel(x, y), 20 + x + 9 * y);
                    check.due("rank" + place, sender.rank(x, y), Ranks.BY_ROW[y][x]);
                }
            }
        }
    }

    private static void nothingIsOutside(Check check, Outside kind) {
        PyramidSender sender = new PyramidSender();
        sender.ramp(20, 1, 9);
        sender.send();
        sender.receive(81);
        for (int[] place : kind.places()) {
            String words = "(" + place[0] + ", " + place[1] + ")";
            check.due("draw" + words, sender.draw(place[0], place[1], 0), -1);
            check.due("pixel" + words, sender.pixel(place[0], place[1]), -1);
            check.due("rank" + words, sender.rank(place[0], place[1]), -1);
        }
    }

    private static void bothEndsOfValues(Check check) {
        PyramidSender sender = new PyramidSender();
        sender.ramp(7, 0, 0);
        sender.draw(0, 0, 0);
        sender.draw(8, 0, 255);
        sender.send();
        check.due("receive(2)", sender.receive(2), 2);
        check.due("pixel(0, 0)", sender.pixel(0, 0), 0);
        check.due("pixel(8, 0)", sender.pixel(8, 0), 255);
        check.due("count(0, 0)", sender.count(0, 0), 1);
        check.due("count(255, 255)", sender.count(255, 255), 1);
        check.due("sum()", sender.sum(), 255);
        check.due("draw(0, 0, 1)", sender.draw(0, 0, 1), 0);
        check.due("draw(8, 0, 1)", sender.draw(8, 0, 1), 255);
    }

    private static void onlySendMakesTheCopy(Check check) {
        PyramidSender sender = new PyramidSender();
        sender.draw(0, 0, 9);
        check.due("receive(1) after draw", sender.receive(1), -1);
        sender.ramp(9, 0, 0);
        check.due("receive(1) after ramp", sender.receive(1), -1);
        sender.send();
        sender.ramp(11, 0, 0);
        check.due("receive(1) after send", sender.receive(1), 1);
        check.due("pixel(0, 0)", sender.pixel(0, 0), 9);
    }
}
