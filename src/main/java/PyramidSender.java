/** A picture that is sent from coarse to fine, and read back as far as it has come. */
public final class PyramidSender {
    private static final int SIDE = 9;
    private static final int PIXELS = 81;
    private static final int COARSEST_LEVEL = 3;
    private static final int VALUE_MASK = 255;
    private static final int REFUSED = -1;

    // All three are laid out row by row: the pixel (x, y) is at y * SIDE + x.
    private final int[] drawn = new int[PIXELS];
    private final int[] sent = new int[PIXELS];
    private final int[] ranks = new int[PIXELS];

    private boolean hasSent = false;
    private int received = 0;

    public PyramidSender() {
        int next = 0;
        for (int level = COARSEST_LEVEL; level >= 0; level--) {
            next = rankPixelsOfStep(1 << level, next);
        }
    }

    public int draw(int x, int y, int value) {
        if (!isInside(x, y)) {
            return REFUSED;
        }
        int place = y * SIDE + x;
        int before = drawn[place];
        drawn[place] = value & VALUE_MASK;
        return before;
    }

    public void ramp(int base, int dx, int dy) {
        for (int y = 0; y < SIDE; y++) {
            for (int x = 0; x < SIDE; x++) {
                drawn[y * SIDE + x] = (base + dx * x + dy * y) & VALUE_MASK;
            }
        }
    }

    public void send() {
        for (int place = 0; place < PIXELS; place++) {
            sent[place] = drawn[place];
        }
        hasSent = true;
        received = 0;
    }

    public int receive(int count) {
        if (!hasSent) {
            return REFUSED;
        }
        // Compared with what is left, since received + count could wrap.
        int left = PIXELS - received;
        if (count > left) {
            received = PIXELS;
        } else if (count > 0) {
            received = received + count;
        }
        return received;
    }

    public int pixel(int x, int y) {
        if (!isInside(x, y)) {
            return REFUSED;
        }
        int place = y * SIDE + x;
        // Before the first send nothing is received, so this refuses then too.
        if (ranks[place] >= received) {
            return REFUSED;
        }
        return sent[place];
    }

    public int rank(int x, int y) {
        if (!isInside(x, y)) {
            return REFUSED;
        }
        return ranks[y * SIDE + x];
    }

    public int count(int low, int high) {
        int found = 0;
        for (int place = 0; place < PIXELS; place++) {
            if (ranks[place] < received && sent[place] >= low && sent[place] <= high) {
                found++;
            }
        }
        return found;
    }

    public int sum() {
        int total = 0;
        for (int place = 0; place < PIXELS; place++) {
            if (ranks[place] < received) {
                total = total + sent[place];
            }
        }
        return total;
    }

    /** Gives the pixels of one step their ranks from first on; answers the next free rank. */
    private int rankPixelsOfStep(int step, int first) {
        int next = first;
        for (int y = 0; y < SIDE; y++) {
            for (int x = 0; x < SIDE; x++) {
                if (stepOf(x, y) == step) {
                    ranks[y * SIDE + x] = next;
                    next++;
                }
            }
        }
        return next;
    }

    private static int stepOf(int x, int y) {
        // A power of two divides both numbers exactly if it divides x | y.
        int both = x | y;
        if (both % 8 == 0) {
            return 8;
        }
        if (both % 4 == 0) {
            return 4;
        }
        if (both % 2 == 0) {
            return 2;
        }
        return 1;
    }

    private static boolean isInside(int x, int y) {
        return x >= 0 && x < SIDE && y >= 0 && y < SIDE;
    }
}
