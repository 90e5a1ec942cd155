import java.util.stream.IntStream;

/** 'Terms', the order of pixels, and promise 7: rank. */
public final class RankTest {
    private static final int PIXELS = 81;

    public static void main(String[] args) {
        Check check = new Check("rank");
        check.sentence("\"8 if x and y both are multiples of 8\", 0 among them");
        haveRanks(check, new int[][] {{0, 0}, {8, 0}, {0, 8}, {8, 8}}, 0);
        check.sentence("\"else 4 if both are multiples of 4\", also where one of both is a multiple of 8");
        haveRanks(check, new int[][] {{4, 0}, {0, 4}, {4, 4}, {8, 4}, {4, 8}}, 4);
        check.sentence("\"else 2 if both are multiples of 2\", also where one of both is a multiple of 4 or 8");
        haveRanks(check, new int[][] {
            {2, 0}, {6, 0}, {0, 2}, {2, 2}, {4, 2}, {6, 2}, {8, 2}, {2, 4}, {6, 4},
            {0, 6}, {2, 6}, {4, 6}, {6, 6}, {8, 6}, {2, 8}, {6, 8},
        }, 9);
        check.sentence("\"else 1\", also where one of both is even");
        haveRanks(check, pixelsWithStep(1), 25);
        int[] ranks = allRanks();
        check.sentence("\"Pixels with a greater step come first\"");
        greaterStepsFirst(check, ranks);
        check.sentence("\"of pixels with equal steps, those with lesser y first\"");
        lesserYFirst(check, ranks);
        check.sentence("\"of those with equal y too, those with lesser x first\"");
        lesserXFirst(check, ranks);
        check.sentence("\"every pixel has a RANK from 0 to 80\", each rank once");
        eachRankOnce(check, ranks);
        check.sentence("\"The rank of the pixel\", of a new object and of a used one");
        isTheTable(check, "new", new PyramidSender());
        isTheTable(check, "used", used());
        for (Outside kind : Outside.values()) {
            check.sentence("\"-1 if x or y is not from 0 to 8\", " + kind.words);
            refuses(check, kind, new PyramidSender());
            refuses(check, kind, used());
        }
        check.end();
    }

    private static PyramidSender used() {
        PyramidSender used = new PyramidSender();
        used.ramp(9, 9, 9);
        used.send();
        used.receive(33);
        return used;
    }

    private static void haveRanks(Check check, int[][] places, int first) {
        PyramidSender sender = new PyramidSender();
        for (int i = 0; i < places.length; i++) {
            String call = "rank(" + places[i][0] + ", " + places[i][1] + ")";
            check.due(call, sender.rank(places[i][0], places[i][1]), first + i);
        }
    }

    private static int[] allRanks() {
        PyramidSender sender = new PyramidSender();
        int[] ranks = new int[PIXELS];
        for (int place = 0; place < PIXELS; place++) {
            ranks[place] = sender.rank(place % 9, place / 9);
        }
        return ranks;
    }

    private static int[][] pixelsWithStep(int step) {
        return IntStream.range(0, PIXELS)
            .filter(place -> step(place) == step)
            .mapToObj(place -> new int[] {place % 9, place / 9})
            .toArray(int[][]::new);
    }

    private static int step(int place) {
        for (int step = 8; step > 1; step /= 2) {
            if (place % 9 % step == 0 && place / 9 % step == 0) {
                return step;
            }
        }
        return 1;
    }

    private static void greaterStepsFirst(Check check, int[] ranks) {
        for (int one = 0; one < PIXELS; one++) {
            for (int other = 0; other < PIXELS; other++) {
                if (step(one) > step(other)) {
                    isBefore(check, ranks, one, other);
                }
            }
        }
    }

    private static void lesserYFirst(Check check, int[] ranks) {
        for (int one = 0; one < PIXELS; one++) {
            for (int other = 0; other < PIXELS; other++) {
                if (step(one) == step(other) && one / 9 < other / 9) {
                    isBefore(check, ranks, one, other);
                }
            }
        }
    }

    private static void lesserXFirst(Check check, int[] ranks) {
        for (int one = 0; one < PIXELS; one++) {
            for (int other = 0; other < PIXELS; other++) {
                if (step(one) == step(other) && one / 9 == other / 9 && one % 9 < other % 9) {
                    isBefore(check, ranks, one, other);
                }
            }
        }
    }

    private static void isBefore(Check check, int[] ranks, int one, int other) {
        String places = "(" + one % 9 + ", " + one / 9 + ") before (" + other % 9 + ", " + other / 9 + ")";
        check.due(places, ranks[one] < ranks[other] ? 1 : 0, 1);
    }

    private static void eachRankOnce(Check check, int[] ranks) {
        for (int rank = 0; rank < PIXELS; rank++) {
            int found = 0;
            for (int seen : ranks) {
                found += seen == rank ? 1 : 0;
            }
            check.due("pixels with rank " + rank, found, 1);
        }
    }

    private static void isTheTable(Check check, String when, PyramidSender sender) {
        for (int y = 0; y < 9; y++) {
            for (int x = 0; x < 9; x++) {
                check.due(when + " rank(" + x + ", " + y + ")", sender.rank(x, y), Ranks.BY_ROW[y][x]);
            }
        }
    }

    private static void refuses(Check check, Outside kind, PyramidSender sender) {
        for (int[] place : kind.places()) {
            check.due("rank(" + place[0] + ", " + place[1] + ")", sender.rank(place[0], place[1]), -1);
        }
    }
}
