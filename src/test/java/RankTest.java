/** Promise 7: rank, and the order of pixels. */
public final class RankTest {
    public static void main(String[] args) {
        Check check = new Check("rank");
        PyramidSender fresh = new PyramidSender();
        isTheTable(check, "fresh", fresh);
        refusesOutside(check, fresh);

        PyramidSender used = new PyramidSender();
        used.ramp(9, 9, 9);
        used.send();
        used.receive(33);
        isTheTable(check, "used", used);

        tableKeepsTheOrder(check);
        check.end();
    }

    private static void isTheTable(Check check, String when, PyramidSender sender) {
        for (int y = 0; y < 9; y++) {
            for (int x = 0; x < 9; x++) {
                check.due(when + " rank(" + x + ", " + y + ")", sender.rank(x, y), Ranks.BY_ROW[y][x]);
            }
        }
    }

    private static void refusesOutside(Check check, PyramidSender sender) {
        for (int out : Check.OUTSIDE) {
            for (int in = 0; in < 9; in += 4) {
                check.due("rank(" + out + ", " + in + ")", sender.rank(out, in), -1);
                check.due("rank(" + in + ", " + out + ")", sender.rank(in, out), -1);
            }
            check.due("rank(" + out + ", " + out + ")", sender.rank(out, out), -1);
        }
    }

    /** Guards the table that was written by hand: a rank is how many pixels come before. */
    private static void tableKeepsTheOrder(Check check) {
        for (int place = 0; place < 81; place++) {
            int before = 0;
            for (int other = 0; other < 81; other++) {
                if (comesBefore(other % 9, other / 9, place % 9, place / 9)) {
                    before++;
                }
            }
            check.due("table at " + place, Ranks.BY_ROW[place / 9][place % 9], before);
        }
    }

    private static boolean comesBefore(int x, int y, int otherX, int otherY) {
        int step = step(x, y);
        int otherStep = step(otherX, otherY);
        if (step != otherStep) {
            return step > otherStep;
        }
        return y != otherY ? y < otherY : x < otherX;
    }

    private static int step(int x, int y) {
        for (int step = 8; step > 1; step /= 2) {
            if (x % step == 0 && y % step == 0) {
                return step;
            }
        }
        return 1;
    }
}
