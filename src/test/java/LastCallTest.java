import java.util.LinkedHashMap;
import java.util.Map;
import java.util.function.Consumer;

/** 'What it is': 512 calls are allowed, so the 512th still answers as due, whatever the ones before were. */
public final class LastCallTest {
    private static final int MAX = Integer.MAX_VALUE;
    private static final int CALLS = 512;
    private static final int CALLS_OF_END = 4;

    public static void main(String[] args) {
        Check check = new Check("last call");
        for (Map.Entry<String, Consumer<PyramidSender>> filler : fillers().entrySet()) {
            check.sentence("\"An object is used for at most 512 calls\", filled with " + filler.getKey());
            answersOf512th(check, filler.getKey(), filler.getValue());
        }
        check.end();
    }

    private static Map<String, Consumer<PyramidSender>> fillers() {
        Map<String, Consumer<PyramidSender>> fillers = new LinkedHashMap<>();
        fillers.put("draw(8, 8, 255)", sender -> sender.draw(8, 8, 255));
        fillers.put("draw(9, 9, 255)", sender -> sender.draw(9, 9, 255));
        fillers.put("ramp(MAX, MAX, MAX)", sender -> sender.ramp(MAX, MAX, MAX));
        fillers.put("send()", sender -> sender.send());
        fillers.put("receive(MAX)", sender -> sender.receive(MAX));
        fillers.put("pixel(8, 8)", sender -> sender.pixel(8, 8));
        fillers.put("rank(8, 8)", sender -> sender.rank(8, 8));
        fillers.put("count(0, 255)", sender -> sender.count(0, 255));
        fillers.put("sum()", sender -> sender.sum());
        return fillers;
    }

    private static void answersOf512th(Check check, String name, Consumer<PyramidSender> filler) {
        check.due("draw(3, 3, 0) after " + name, received30(filler).draw(3, 3, 0), 50);
        check.due("receive(81) after " + name, received30(filler).receive(81), 81);
        check.due("pixel(8, 8) after " + name, received30(filler).pixel(8, 8), 100);
        check.due("pixel(1, 1) after " + name, received30(filler).pixel(1, 1), -1);
        check.due("rank(7, 8) after " + name, received30(filler).rank(7, 8), 80);
        check.due("count(0, 255) after " + name, received30(filler).count(0, 255), 30);
        int sum = Picture.sumOf(Picture.numbered(20), 30);
        check.due("sum() after " + name, received30(filler).sum(), sum);

        PyramidSender rampIs511th = filled(filler, CALLS - 2);
        rampIs511th.ramp(20, 1, 9);
        check.due("draw(7, 8, 0) after ramp and " + name, rampIs511th.draw(7, 8, 0), 99);

        PyramidSender sendIs511th = filled(filler, CALLS - 2);
        sendIs511th.send();
        check.due("receive(1) after send and " + name, sendIs511th.receive(1), 1);
    }

    /** An object with one of its 512 calls left. */
    private static PyramidSender received30(Consumer<PyramidSender> filler) {
        PyramidSender sender = filled(filler, CALLS - CALLS_OF_END);
        sender.ramp(20, 1, 9);
        sender.send();
        sender.receive(30);
        return sender;
    }

    private static PyramidSender filled(Consumer<PyramidSender> filler, int calls) {
        PyramidSender sender = new PyramidSender();
        for (int call = 0; call < calls; call++) {
            filler.accept(sender);
        }
        return sender;
    }
}
