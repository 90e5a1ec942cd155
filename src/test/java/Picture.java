/** Pictures that are due, row by row, and the comparison with what an object holds. */
final class Picture {
    private Picture() {
    }

    /** What ramp(base, 1, 9) draws: below 176 every pixel has a value of its own. */
    static int[][] numbered(int base) {
        int[][] rows = new int[9][9];
        for (int y = 0; y < 9; y++) {
            for (int x = 0; x < 9; x++) {
                rows[y][x] = base + x + 9 * y;
            }
        }
        return rows;
    }

    /** Sends what is drawn and compares all of it; takes 83 of the object's 512 calls. */
    static void drawnIs(Check check, String when, PyramidSender sender, int[][] drawn) {
        sender.send();
        check.due(when + ": receive(81) of the drawn picture", sender.receive(81), 81);
        shownIs(check, when + ", drawn picture", sender, drawn, 81);
    }

    /** Compares all pixels that can be read; takes 81 calls. */
    static void shownIs(Check check, String when, PyramidSender sender, int[][] sent, int received) {
        for (int y = 0; y < 9; y++) {
            for (int x = 0; x < 9; x++) {
                int want = Ranks.BY_ROW[y][x] < received ? sent[y][x] : -1;
                check.due(when + ": pixel(" + x + ", " + y + ")", sender.pixel(x, y), want);
            }
        }
    }

    static int sumOf(int[][] sent, int received) {
        int sum = 0;
        for (int y = 0; y < 9; y++) {
            for (int x = 0; x < 9; x++) {
                sum += Ranks.BY_ROW[y][x] < received ? sent[y][x] : 0;
            }
        }
        return sum;
    }
}
