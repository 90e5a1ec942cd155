import java.util.ArrayList;
import java.util.List;

/** Promise 10: a call that is refused changes nothing, in any state of the object. */
public final class RefusalTest {
    public static void main(String[] args) {
        Check check = new Check("refusals");
        check.sentence("\"a call that is refused (..) changes nothing\", draw outside");
        for (Known known : states()) {
            drawOutside(check, known);
        }
        check.sentence("\"a call that is refused (..) changes nothing\", receive where nothing has been sent");
        receiveBeforeSend(check, Known.nothingSent());
        check.sentence("\"a call that is refused (..) changes nothing\", pixel outside");
        for (Known known : states()) {
            pixelOutside(check, known);
        }
        check.sentence("\"a call that is refused (..) changes nothing\", pixel where nothing has been sent");
        pixelNotReceived(check, Known.nothingSent(), 0);
        check.sentence("\"a call that is refused (..) changes nothing\", pixel where it is not received");
        for (int received : Known.RECEIVED_CASES) {
            pixelNotReceived(check, Known.received(received), received);
        }
        check.sentence("\"a call that is refused (..) changes nothing\", rank outside");
        for (Known known : states()) {
            rankOutside(check, known);
        }
        check.sentence("nor does a call that only asks");
        for (Known known : states()) {
            askOnly(check, known);
        }
        check.end();
    }

    private static List<Known> states() {
        List<Known> states = new ArrayList<>();
        states.add(Known.nothingSent());
        for (int received : Known.RECEIVED_CASES) {
            states.add(Known.received(received));
        }
        return states;
    }

    private static void drawOutside(Check check, Known known) {
        for (Outside kind : Outside.values()) {
            for (int[] place : kind.places()) {
                String call = "draw(" + place[0] + ", " + place[1] + ", 1)";
                check.due(call, known.sender.draw(place[0], place[1], 1), -1);
            }
        }
        known.isUnchanged(check, "after draws outside");
    }

    private static void receiveBeforeSend(Check check, Known known) {
        int[] counts = {0, 1, 81, 82, -1, Integer.MAX_VALUE, Integer.MIN_VALUE};
        for (int count : counts) {
            check.due("receive(" + count + ")", known.sender.receive(count), -1);
        }
        known.isUnchanged(check, "after refused receives");
    }

    private static void pixelOutside(Check check, Known known) {
        for (Outside kind : Outside.values()) {
            for (int[] place : kind.places()) {
                check.due("pixel(" + place[0] + ", " + place[1] + ")", known.sender.pixel(place[0], place[1]), -1);
            }
        }
        known.isUnchanged(check, "after pixels outside");
    }

    private static void pixelNotReceived(Check check, Known known, int received) {
        for (int rank = received; rank < 81; rank++) {
            int x = Ranks.xOf(rank);
            int y = Ranks.yOf(rank);
            check.due("pixel(" + x + ", " + y + ")", known.sender.pixel(x, y), -1);
        }
        known.isUnchanged(check, "after pixels that have not come");
    }

    private static void rankOutside(Check check, Known known) {
        for (Outside kind : Outside.values()) {
            for (int[] place : kind.places()) {
                check.due("rank(" + place[0] + ", " + place[1] + ")", known.sender.rank(place[0], place[1]), -1);
            }
        }
        known.isUnchanged(check, "after ranks outside");
    }

    private static void askOnly(Check check, Known known) {
        known.sender.count(0, 255);
        known.sender.count(255, 0);
        known.sender.sum();
        known.sender.rank(8, 8);
        known.sender.pixel(8, 8);
        known.isUnchanged(check, "after calls that only ask");
    }
}
