/**
 * Arguments outside the document's ranges: the first wrong one on either side, its neighbours,
 * the least and the greatest int, and some that are right once they are cut to 16, 8 or 3 bits,
 * negated, or taken as a shift (whose lowest 5 bits alone count).
 */
final class Wrong {
    private static final int MIN = Integer.MIN_VALUE;
    private static final int MAX = Integer.MAX_VALUE;

    static final int[] SMALL_STATES = {
        0, -1, -2, -5, -32768, -65534, -65535, -65536, -131071, -(1 << 30), MIN + 1, MIN};
    static final int[] LARGE_STATES = {
        65536, 65537, 65541, 131071, 131072, 1 << 24, 1 << 30, MAX - 1, MAX};

    static final int[] SMALL_MARKS = {
        -1, -2, -7, -8, -9, -256, -65536, -(1 << 30), MIN + 1, MIN};
    static final int[] LARGE_MARKS = {
        8, 9, 15, 16, 32, 256, 259, 65536, 1 << 30, MAX - 1, MAX};

    static final int[] SMALL_JUMPS = {
        -100001, -100002, -131070, -131072, -165535, -(1 << 30), MIN + 1, MIN};
    static final int[] LARGE_JUMPS = {
        100001, 100002, 131070, 131072, 165535, 1 << 30, MAX - 1, MAX};

    static final int[] SMALL_COUNTS = {
        -1, -2, -65535, -99999, -100000, -100001, -131070, -(1 << 30), MIN + 1, MIN};
    static final int[] LARGE_COUNTS = LARGE_JUMPS;

    static final int[] SMALL_BITS = {
        -1, -2, -8, -24, -31, -32, -256, -(1 << 30), MIN + 1, MIN};
    static final int[] LARGE_BITS = {
        9, 10, 15, 16, 17, 31, 32, 33, 40, 256, 65536, 1 << 30, MAX - 1, MAX};

    static final int[] STATES = both(SMALL_STATES, LARGE_STATES);
    static final int[] MARKS = both(SMALL_MARKS, LARGE_MARKS);
    static final int[] JUMPS = both(SMALL_JUMPS, LARGE_JUMPS);
    static final int[] COUNTS = both(SMALL_COUNTS, LARGE_COUNTS);
    static final int[] BITS = both(SMALL_BITS, LARGE_BITS);

    private Wrong() {
    }

    private static int[] both(int[] small, int[] large) {
        int[] all = new int[small.length + large.length];
        System.arraycopy(small, 0, all, 0, small.length);
        System.arraycopy(large, 0, all, small.length, large.length);
        return all;
    }
}
