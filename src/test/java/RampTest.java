import java.math.BigInteger;

/** Promise 3: ramp. */
public final class RampTest {
    private static final int MIN = Integer.MIN_VALUE;
    private static final int MAX = Integer.MAX_VALUE;

    public static void main(String[] args) {
        Check check = new Check("ramp");
        int[][] ramps = {
            {0, 0, 0}, {10, 3, 5}, {255, -1, -7}, {0, 128, 128}, {7, 64, 192}, {255, 1, 0}, {255, 0, 1},
            {-1, 0, 0}, {300, 1000, -1000}, {MAX, 1, 1}, {MIN, -1, -1}, {MAX, MAX, MAX}, {MIN, MIN, MIN},
            {100, MAX, MIN}, {100, MIN, MAX}, {5, 123456789, 987654321},
        };
        for (int[] ramp : ramps) {
            fillsEveryPixel(check, ramp[0], ramp[1], ramp[2]);
        }
        leavesTheSentPicture(check);
        check.end();
    }

    /** Draws before, so that a pixel that ramp left out would show. */
    private static void fillsEveryPixel(Check check, int base, int dx, int dy) {
        PyramidSender sender = new PyramidSender();
        int[][] want = new int[9][9];
        for (int y = 0; y < 9; y++) {
            for (int x = 0; x < 9; x++) {
                want[y][x] = lowByte(base, dx, dy, x, y);
                sender.draw(x, y, want[y][x] + 1);
            }
        }
        sender.ramp(base, dx, dy);
        check.drawnIs("ramp(" + base + ", " + dx + ", " + dy + ")", sender, want);
    }

    /** Without wrapping, which must not change the low eight bits. */
    private static int lowByte(int base, int dx, int dy, int x, int y) {
        return BigInteger.valueOf(base)
            .add(BigInteger.valueOf(dx).multiply(BigInteger.valueOf(x)))
            .add(BigInteger.valueOf(dy).multiply(BigInteger.valueOf(y)))
            .mod(BigInteger.valueOf(256))
            .intValueExact();
    }

    private static void leavesTheSentPicture(Check check) {
        PyramidSender sender = new PyramidSender();
        sender.ramp(1, 2, 3);
        sender.send();
        sender.receive(50);
        int sum = sender.sum();
        sender.ramp(77, 0, 0);
        check.due("sum() after ramp", sender.sum(), sum);
        check.due("pixel(8, 8) after ramp", sender.pixel(8, 8), 41);
        check.due("receive(0) after ramp", sender.receive(0), 50);
    }
}
