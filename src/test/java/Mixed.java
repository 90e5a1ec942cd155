/** Numbers that look mixed but are worked out from a seed, so that the tests need no random source. */
final class Mixed {
    private long state;

    Mixed(long seed) {
        state = seed;
    }

    /** Any int: a step by an odd constant that reaches every state, then its bits stirred (the SplitMix64 method). */
    int next() {
        state += 0x9E3779B97F4A7C15L;
        long stirred = (state ^ (state >>> 30)) * 0xBF58476D1CE4E5B9L;
        stirred = (stirred ^ (stirred >>> 27)) * 0x94D049BB133111EBL;
        return (int) ((stirred ^ (stirred >>> 31)) >>> 32);
    }

    int below(int bound) {
        return Math.floorMod(next(), bound);
    }
}
