/** Promise 1: a new object. */
public final class NewObjectTest {
    public static void main(String[] args) {
        Check check = new Check("new object");
        check.sentence("\"The drawn picture is all 0\"");
        drawnIsAllZero(check);
        check.sentence("\"nothing is sent\"");
        nothingIsSent(check);
        check.sentence("each new object starts so, whatever others hold");
        objectsShareNothing(check);
        check.end();
    }

    private static void drawnIsAllZero(Check check) {
        PyramidSender sender = new PyramidSender();
        for (int y = 0; y < 9; y++) {
            for (int x = 0; x < 9; x++) {
                check.due("draw(" + x + ", " + y + ", 7)", sender.draw(x, y, 7), 0);
            }
        }
        Picture.drawnIs(check, "new object", new PyramidSender(), new int[9][9]);
    }

    private static void nothingIsSent(Check check) {
        PyramidSender sender = new PyramidSender();
        check.due("receive(0)", sender.receive(0), -1);
        check.due("receive(1)", sender.receive(1), -1);
        check.due("sum()", sender.sum(), 0);
        check.due("count(0, 255)", sender.count(0, 255), 0);
        Picture.shownIs(check, "new object", sender, new int[9][9], 0);
    }

    private static void objectsShareNothing(Check check) {
        PyramidSender first = new PyramidSender();
        first.ramp(200, 0, 0);
        first.send();
        first.receive(81);
        PyramidSender second = new PyramidSender();
        check.due("second.receive(1)", second.receive(1), -1);
        check.due("second.draw(0, 0, 5)", second.draw(0, 0, 5), 0);
        second.send();
        check.due("first.receive(0)", first.receive(0), 81);
        check.due("first.pixel(0, 0)", first.pixel(0, 0), 200);
        check.due("first.draw(0, 0, 5)", first.draw(0, 0, 5), 200);
        check.due("first.sum()", first.sum(), 81 * 200);
    }
}
