/** Promise 6: pixel. */
public final class PixelTest {
    public static void main(String[] args) {
        Check check = new Check("pixel");
        check.sentence("\"The value of the pixel of the sent picture\", not of the drawn one");
        readsTheSentPicture(check);
        check.sentence("\"The value of the pixel\", where it is 0 and where it is 255");
        readsBothEndsOfValues(check);
        check.sentence("\"if its rank is below the number of pixels received\"");
        for (int rank = 0; rank < 81; rank++) {
            showsFrom(check, rank, rank + 1);
        }
        check.sentence("\"else -1\", where its rank is the number of pixels received");
        for (int rank = 0; rank < 81; rank++) {
            hidesAt(check, rank, rank);
        }
        check.sentence("\"else -1\", where its rank is above the number of pixels received");
        for (int rank = 1; rank < 81; rank++) {
            hidesAt(check, rank, rank - 1);
            hidesAt(check, rank, 0);
        }
        check.sentence("every pixel at every number received");
        for (int received = 0; received <= 81; received++) {
            PyramidSender sender = sent(received);
            Picture.shownIs(check, "after " + received, sender, Picture.numbered(20), received);
        }
        for (Outside kind : Outside.values()) {
            check.sentence("\"also if x or y is not from 0 to 8\", " + kind.words);
            refuses(check, kind, sent(81));
            refuses(check, kind, sent(0));
            refuses(check, kind, new PyramidSender());
        }
        check.sentence("\"or nothing has been sent\"");
        refusesBeforeSend(check);
        check.end();
    }

    private static PyramidSender sent(int received) {
        PyramidSender sender = new PyramidSender();
        sender.ramp(20, 1, 9);
        sender.send();
        sender.receive(received);
        return sender;
    }

    private static void readsTheSentPicture(Check check) {
        PyramidSender sender = sent(81);
        sender.ramp(120, 1, 9);
        Picture.shownIs(check, "drawn anew", sender, Picture.numbered(20), 81);
    }

    private static void readsBothEndsOfValues(Check check) {
        PyramidSender sender = new PyramidSender();
        sender.draw(8, 0, 255);
        sender.send();
        sender.receive(2);
        check.due("pixel(0, 0)", sender.pixel(0, 0), 0);
        check.due("pixel(8, 0)", sender.pixel(8, 0), 255);
    }

    private static void showsFrom(Check check, int rank, int received) {
        int x = Ranks.xOf(rank);
        int y = Ranks.yOf(rank);
        check.due("pixel(" + x + ", " + y + ") after " + received, sent(received).pixel(x, y), 20 + x + 9 * y);
    }

    private static void hidesAt(Check check, int rank, int received) {
        int x = Ranks.xOf(rank);
        int y = Ranks.yOf(rank);
        check.due("pixel(" + x + ", " + y + ") after " + received, sent(received).pixel(x, y), -1);
    }

    private static void refuses(Check check, Outside kind, PyramidSender sender) {
        for (int[] place : kind.places()) {
            check.due("pixel(" + place[0] + ", " + place[1] + ")", sender.pixel(place[0], place[1]), -1);
        }
    }

    private static void refusesBeforeSend(Check check) {
        Picture.shownIs(check, "new object", new PyramidSender(), new int[9][9], 0);
        PyramidSender sender = new PyramidSender();
        sender.ramp(20, 1, 9);
        sender.receive(81);
        Picture.shownIs(check, "drawn but not sent", sender, Picture.numbered(20), 0);
    }
}
