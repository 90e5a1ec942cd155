/** The ways in which a place (x, y) is not in a picture, each with at most 28 such places. */
enum Outside {
    X_TOO_SMALL("x below 0"),
    X_TOO_LARGE("x above 8"),
    Y_TOO_SMALL("y below 0"),
    Y_TOO_LARGE("y above 8"),
    BOTH("x and y both outside");

    // Nine times the number before the last wraps into 0 to 80, so it would pass where only y * 9 + x is looked at;
    // 256 and 65536 would pass where only the low bits are.
    private static final int[] TOO_SMALL = {-1, -2, -9, -256, -65536, -477218588, Integer.MIN_VALUE};
    private static final int[] TOO_LARGE = {9, 10, 81, 256, 65536, 477218589, Integer.MAX_VALUE};
    // In the first three y * 9 + x is from 0 to 80.
    private static final int[][] BOTH_OUT = {
        {9, -1}, {-9, 9}, {-1, 9}, {-1, -1}, {9, 9},
        {Integer.MIN_VALUE, Integer.MAX_VALUE}, {Integer.MAX_VALUE, Integer.MIN_VALUE},
    };

    final String words;

    Outside(String words) {
        this.words = words;
    }

    int[][] places() {
        return switch (this) {
            case X_TOO_SMALL -> besideInside(TOO_SMALL, true);
            case X_TOO_LARGE -> besideInside(TOO_LARGE, true);
            case Y_TOO_SMALL -> besideInside(TOO_SMALL, false);
            case Y_TOO_LARGE -> besideInside(TOO_LARGE, false);
            case BOTH -> BOTH_OUT;
        };
    }

    private static int[][] besideInside(int[] outside, boolean isX) {
        int[] inside = {0, 1, 4, 8};
        int[][] places = new int[outside.length * inside.length][];
        int next = 0;
        for (int out : outside) {
            for (int in : inside) {
                places[next] = isX ? new int[] {out, in} : new int[] {in, out};
                next++;
            }
        }
        return places;
    }
}
