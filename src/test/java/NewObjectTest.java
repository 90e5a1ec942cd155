/** Promise 1: the drawn picture is all 0; nothing is sent. */
public final class NewObjectTest {
    public static void main(String[] args) {
        Check check = new Check("new object");
        nothingIsSent(check);
        drawnIsAllZero(check);
        objectsShareNothing(check);
        check.end();
    }

    private static void nothingIsSent(Check check) {
        PyramidSender sender = new PyramidSender();
        check.due("receive(0)", sender.receive(0), -1);
        check.due("receive(1)", sender.receive(1), -1);
        check.due("sum()", sender.sum(), 0);
        check.due("count(0, 255)", sender.count(0, 255), 0);
        for (int y = 0; y < 9; y++) {
            for (int x = 0; x < 9; x++) {
                check.due("pixel(" + x + ", " + y + ")", sender.pixel(x, y), -1);
            }
        }
    }

    private static void drawnIsAllZero(Check check) {
        PyramidSender sender = new PyramidSender();
        for (int y = 0; y < 9; y++) {
            for (int x = 0; x < 9; x++) {
                check.due("draw(" + x + ", " + y + ", 7)", sender.draw(x, y, 7), 0);
            }
        }
        check.drawnIs("new object, sent", new PyramidSender(), new int[9][9]);
    }

    private static void objectsShareNothing(Check check) {
        PyramidSender first = new PyramidSender();
        first.ramp(200, 0, 0);
        first.send();
        first.receive(81);
        PyramidSender second = new PyramidSender();
        check.due("second.receive(1)", second.receive(1), -1);
        check.due("second.draw(0, 0, 5)", second.draw(0, 0, 5), 0);
        second.send();
        check.due("first.pixel(0, 0)", first.pixel(0, 0), 200);
        check.due("first.sum()", first.sum(), 81 * 200);
    }
}
