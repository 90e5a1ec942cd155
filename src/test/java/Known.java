/** An object whose whole state is known, so that a call that must change nothing can be held to it. */
final class Known {
    static final int[] RECEIVED_CASES = {0, 1, 30, 80, 81};

    final PyramidSender sender = new PyramidSender();
    private final int[][] drawn = Picture.numbered(120);
    private final int[][] sent = Picture.numbered(20);
    private final boolean hasSent;
    private final int received;

    private Known(boolean hasSent, int received) {
        this.hasSent = hasSent;
        this.received = received;
        if (hasSent) {
            sender.ramp(20, 1, 9);
            sender.send();
            sender.receive(received);
        }
        sender.ramp(120, 1, 9);
    }

    static Known nothingSent() {
        return new Known(false, 0);
    }

    /** The drawn and the sent picture differ in every pixel, so that a mix-up of both shows. */
    static Known received(int received) {
        return new Known(true, received);
    }

    /** Ends the object's use: making it and this take at most 334 of its 512 calls. */
    void isUnchanged(Check check, String when) {
        check.due(when + ": receive(0)", sender.receive(0), hasSent ? received : -1);
        check.due(when + ": sum()", sender.sum(), Picture.sumOf(sent, received));
        check.due(when + ": count(0, 255)", sender.count(0, 255), received);
        Picture.shownIs(check, when, sender, sent, received);
        for (int y = 0; y < 9; y++) {
            for (int x = 0; x < 9; x++) {
                check.due(when + ": rank(" + x + ", " + y + ")", sender.rank(x, y), Ranks.BY_ROW[y][x]);
            }
        }
        if (hasSent) {
            check.due(when + ": receive(81)", sender.receive(81), 81);
            Picture.shownIs(check, when + ", whole sent picture", sender, sent, 81);
        }
        Picture.drawnIs(check, when, sender, drawn);
    }
}
