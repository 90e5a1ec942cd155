/** The example in README.md, call by call. It is a copy made by hand, as tests read no files: change both together. */
public final class ReadmeTest {
    public static void main(String[] args) {
        Check check = new Check("readme");
        check.sentence("each call of the example answers what stands beside it");
        PyramidSender sender = new PyramidSender();
        sender.ramp(10, 3, 5);
        check.due("draw(4, 4, 200)", sender.draw(4, 4, 200), 42);
        sender.send();
        check.due("receive(4)", sender.receive(4), 4);
        check.due("pixel(8, 8)", sender.pixel(8, 8), 74);
        check.due("pixel(4, 4) before it has come", sender.pixel(4, 4), -1);
        check.due("receive(5)", sender.receive(5), 9);
        check.due("pixel(4, 4)", sender.pixel(4, 4), 200);
        check.due("rank(4, 4)", sender.rank(4, 4), 6);
        check.due("count(100, 255)", sender.count(100, 255), 1);
        check.due("sum()", sender.sum(), 536);
        check.end();
    }
}
