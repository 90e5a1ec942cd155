/** Promises 1 to 10 together: mixed runs of 512 calls beside a plain model, the same ones each time. */
public final class LongRunsTest {
    private static final int CALLS = 512;
    private static final int[] EDGES = {
        -1, 0, 1, 8, 9, 80, 81, 82, 127, 128, 255, 256, Integer.MIN_VALUE, Integer.MAX_VALUE,
    };

    private final Mixed mixed;
    private final Check check;
    private final PyramidSender sender = new PyramidSender();
    private final int[][] drawn = new int[9][9];
    private int[][] sent = null;
    private int received = 0;

    private LongRunsTest(Check check, long seed) {
        this.check = check;
        this.mixed = new Mixed(seed);
    }

    public static void main(String[] args) {
        Check check = new Check("long runs");
        check.sentence("mixed runs of " + CALLS + " calls");
        for (long seed = 0; seed < 300; seed++) {
            LongRunsTest run = new LongRunsTest(check, seed);
            for (int call = 0; call < CALLS; call++) {
                run.callOnce("seed " + seed + " call " + call + ": ");
            }
        }
        check.end();
    }

    private void callOnce(String at) {
        switch (mixed.below(20)) {
            case 0 -> ramp();
            case 1 -> send();
            case 2, 3, 4 -> receive(at);
            case 5, 6, 7, 8, 9 -> draw(at);
            case 10, 11, 12, 13 -> pixel(at);
            case 14, 15 -> rank(at);
            case 16, 17 -> count(at);
            default -> check.due(at + "sum()", sender.sum(), tally(0, 255, true));
        }
    }

    private void ramp() {
        int base = number();
        int dx = number();
        int dy = number();
        sender.ramp(base, dx, dy);
        for (int y = 0; y < 9; y++) {
            for (int x = 0; x < 9; x++) {
                drawn[y][x] = (int) Math.floorMod((long) base + (long) dx * x + (long) dy * y, 256L);
            }
        }
    }

    private void send() {
        sender.send();
        sent = new int[9][];
        for (int y = 0; y < 9; y++) {
            sent[y] = drawn[y].clone();
        }
        received = 0;
    }

    private void receive(String at) {
        int count = mixed.below(4) == 0 ? number() : mixed.below(12);
        if (sent != null) {
            received = (int) Math.min(81L, received + Math.max(0L, count));
        }
        check.due(at + "receive(" + count + ")", sender.receive(count), sent == null ? -1 : received);
    }

    private void draw(String at) {
        int x = place();
        int y = place();
        int value = number();
        int want = inside(x, y) ? drawn[y][x] : -1;
        check.due(at + "draw(" + x + ", " + y + ", " + value + ")", sender.draw(x, y, value), want);
        if (inside(x, y)) {
            drawn[y][x] = Math.floorMod(value, 256);
        }
    }

    private void pixel(String at) {
        int x = place();
        int y = place();
        boolean shown = inside(x, y) && sent != null && Ranks.BY_ROW[y][x] < received;
        check.due(at + "pixel(" + x + ", " + y + ")", sender.pixel(x, y), shown ? sent[y][x] : -1);
    }

    private void rank(String at) {
        int x = place();
        int y = place();
        check.due(at + "rank(" + x + ", " + y + ")", sender.rank(x, y), inside(x, y) ? Ranks.BY_ROW[y][x] : -1);
    }

    private void count(String at) {
        int low = number();
        int high = number();
        check.due(at + "count(" + low + ", " + high + ")", sender.count(low, high), tally(low, high, false));
    }

    private int tally(int low, int high, boolean values) {
        int total = 0;
        for (int y = 0; y < 9 && sent != null; y++) {
            for (int x = 0; x < 9; x++) {
                if (Ranks.BY_ROW[y][x] < received && low <= sent[y][x] && sent[y][x] <= high) {
                    total += values ? sent[y][x] : 1;
                }
            }
        }
        return total;
    }

    private int place() {
        return mixed.below(12) == 0 ? EDGES[mixed.below(EDGES.length)] : mixed.below(9);
    }

    private int number() {
        return switch (mixed.below(4)) {
            case 0 -> EDGES[mixed.below(EDGES.length)];
            case 1 -> mixed.next();
            default -> mixed.below(256);
        };
    }

    private static boolean inside(int x, int y) {
        return x >= 0 && x <= 8 && y >= 0 && y <= 8;
    }
}
