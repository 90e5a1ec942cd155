/** The ranks of all pixels, written down by hand from the document's order. */
final class Ranks {
    static final int[][] BY_ROW = {
        { 0, 25,  9, 26,  4, 27, 10, 28,  1},
        {29, 30, 31, 32, 33, 34, 35, 36, 37},
        {11, 38, 12, 39, 13, 40, 14, 41, 15},
        {42, 43, 44, 45, 46, 47, 48, 49, 50},
        { 5, 51, 16, 52,  6, 53, 17, 54,  7},
        {55, 56, 57, 58, 59, 60, 61, 62, 63},
        {18, 64, 19, 65, 20, 66, 21, 67, 22},
        {68, 69, 70, 71, 72, 73, 74, 75, 76},
        { 2, 77, 23, 78,  8, 79, 24, 80,  3},
    };

    private Ranks() {
    }

    static int xOf(int rank) {
        return placeOf(rank) % 9;
    }

    static int yOf(int rank) {
        return placeOf(rank) / 9;
    }

    private static int placeOf(int rank) {
        for (int place = 0; place < 81; place++) {
            if (BY_ROW[place / 9][place % 9] == rank) {
                return place;
            }
        }
        throw new IllegalArgumentException("no pixel has the rank " + rank);
    }
}
