import java.math.BigInteger;

/** Promise 3: ramp. */
public final class RampTest {
    private static final int MIN = Integer.MIN_VALUE;
    private static final int MAX = Integer.MAX_VALUE;

    public static void main(String[] args) {
        Check check = new Check("ramp");
        check.sentence("\"Every drawn pixel (x, y) becomes (base + dx * x + dy * y)\"");
        fillEveryPixel(check, new int[][] {{0, 0, 0}, {10, 3, 5}, {0, 1, 0}, {0, 0, 1}, {15, 1, 29}, {255, -1, -7}});
        check.sentence("\"& 255\", sums above 255");
        fillEveryPixel(check, new int[][] {
            {255, 1, 0}, {255, 0, 1}, {256, 0, 0}, {0, 128, 128}, {7, 64, 192}, {300, 1000, 1000},
        });
        check.sentence("\"& 255\", sums below 0");
        fillEveryPixel(check, new int[][] {
            {0, -1, 0}, {0, 0, -1}, {-1, 0, 0}, {-256, 0, 0}, {-300, -1000, -1000}, {3, 100, -1000},
        });
        check.sentence("\"(wrapping as in Java)\"");
        fillEveryPixel(check, new int[][] {
            {MAX, 1, 0}, {MAX, 0, 1}, {MIN, -1, 0}, {MIN, 0, -1}, {0, MAX, 0}, {0, 0, MAX}, {0, MIN, 0}, {0, 0, MIN},
            {MAX, MAX, MAX}, {MIN, MIN, MIN}, {100, MAX, MIN}, {100, MIN, MAX}, {5, 123456789, 987654321},
        });
        check.sentence("the drawn picture alone changes");
        leavesTheSentPicture(check);
        leavesNothingSent(check);
        check.end();
    }

    private static void fillEveryPixel(Check check, int[][] ramps) {
        for (int[] ramp : ramps) {
            fillsEveryPixel(check, ramp[0], ramp[1], ramp[2]);
        }
    }

    /** Draws before, so that a pixel that ramp left out would show. */
    private static void fillsEveryPixel(Check check, int base, int dx, int dy) {
        PyramidSender sender = new PyramidSender();
        int[][] want = new int[9][9];
        for (int y = 0; y < 9; y++) {
            for (int x = 0; x < 9; x++) {
                want[y][x] = lowByte(base, dx, dy, x, y);
                sender.draw(x, y, want[y][x] + 1);
            }
        }
        sender.ramp(base, dx, dy);
        Picture.drawnIs(check, "ramp(" + base + ", " + dx + ", " + dy + ")", sender, want);
    }

    /** Without wrapping, which must not change the low eight bits. */
    private static int lowByte(int base, int dx, int dy, int x, int y) {
        return BigInteger.valueOf(base)
            .add(BigInteger.valueOf(dx).multiply(BigInteger.valueOf(x)))
            .add(BigInteger.valueOf(dy).multiply(BigInteger.valueOf(y)))
            .mod(BigInteger.valueOf(256))
            .intValueExact();
    }

    private static void leavesTheSentPicture(Check check) {
        PyramidSender sender = new PyramidSender();
        sender.ramp(20, 1, 9);
        sender.send();
        sender.receive(50);
        sender.ramp(77, 0, 0);
        check.due("receive(0) after ramp", sender.receive(0), 50);
        Picture.shownIs(check, "after ramp", sender, Picture.numbered(20), 50);
        sender.receive(31);
        Picture.shownIs(check, "after ramp, whole picture", sender, Picture.numbered(20), 81);
    }

    private static void leavesNothingSent(Check check) {
        PyramidSender sender = new PyramidSender();
        sender.ramp(77, 0, 0);
        check.due("receive(1) after ramp alone", sender.receive(1), -1);
        check.due("pixel(0, 0) after ramp alone", sender.pixel(0, 0), -1);
    }
}
