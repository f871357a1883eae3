/** A small generator of numbers that can be wound forwards and backwards. */
public final class JumpGenerator {
    public static final int NONE = -1;

    private static final int FIRST_STATE = 1;
    private static final int LAST_STATE = 65535;
    private static final int LOW_16_BITS = 65535;
    private static final int MOST_STEPS = 100000;
    private static final int MARKS = 8;
    private static final int MOST_ROUND_BITS = 8;

    // No state is 0, so 0 stands for a mark that holds nothing.
    private static final int EMPTY = 0;

    private final int[] marks = new int[MARKS];
    private int current = FIRST_STATE;

    public JumpGenerator() {
    }

    public boolean seed(int s) {
        if (!isState(s)) {
            return false;
        }
        current = s;
        return true;
    }

    public int state() {
        return current;
    }

    public int next() {
        current = stepForwards(current);
        return current;
    }

    public int jump(int n) {
        if (!isJump(n)) {
            return NONE;
        }
        current = goFrom(current, n);
        return current;
    }

    public int peek(int n) {
        if (!isJump(n)) {
            return NONE;
        }
        return goFrom(current, n);
    }

    public boolean mark(int m) {
        if (!isMark(m)) {
            return false;
        }
        marks[m] = current;
        return true;
    }

    public boolean back(int m) {
        if (!isFilledMark(m)) {
            return false;
        }
        current = marks[m];
        return true;
    }

    public int distance(int s) {
        if (!isState(s)) {
            return NONE;
        }
        return countSteps(current, s);
    }

    public int between(int m, int n) {
        if (!isFilledMark(m) || !isFilledMark(n)) {
            return NONE;
        }
        return countSteps(marks[m], marks[n]);
    }

    public int mixed(int n) {
        if (!isCount(n)) {
            return NONE;
        }
        int mix = 0;
        int x = current;
        for (int i = 0; i < n; i++) {
            mix = mix ^ x;
            x = stepForwards(x);
        }
        return mix;
    }

    public int period() {
        int x = stepForwards(current);
        // Different states have different next states, so the way from the
        // next state always leads back to the current one.
        return 1 + countSteps(x, current);
    }

    public int before(int s, int n) {
        if (!isState(s) || !isCount(n)) {
            return NONE;
        }
        return goBackwards(s, n);
    }

    public int apart(int s, int t, int n) {
        if (!isState(s) || !isState(t) || !isCount(n)) {
            return NONE;
        }
        return goForwards(s, n) ^ goForwards(t, n);
    }

    public int nextRound(int k) {
        if (k < 0 || k > MOST_ROUND_BITS) {
            return NONE;
        }
        int lowBits = (1 << k) - 1;
        int x = current;
        for (int n = 0; n <= MOST_STEPS; n++) {
            if ((x & lowBits) == 0) {
                return n;
            }
            x = stepForwards(x);
        }
        return NONE;
    }

    private static boolean isState(int s) {
        return s >= FIRST_STATE && s <= LAST_STATE;
    }

    private static boolean isJump(int n) {
        return n >= -MOST_STEPS && n <= MOST_STEPS;
    }

    private static boolean isCount(int n) {
        return n >= 0 && n <= MOST_STEPS;
    }

    private static boolean isMark(int m) {
        return m >= 0 && m < MARKS;
    }

    private boolean isFilledMark(int m) {
        return isMark(m) && marks[m] != EMPTY;
    }

    private static int stepForwards(int x) {
        int y = (x ^ (x << 7)) & LOW_16_BITS;
        y = y ^ (y >> 9);
        return (y ^ (y << 8)) & LOW_16_BITS;
    }

    // Undoes the three changes of a step, the last one first. A change whose
    // doubled shift leaves the 16 bits (8 + 8, 9 + 9) is undone by itself; the
    // shift by 7 needs the doubled shift too.
    private static int stepBackwards(int x) {
        int y = (x ^ (x << 8)) & LOW_16_BITS;
        y = y ^ (y >> 9);
        return (y ^ (y << 7) ^ (y << 14)) & LOW_16_BITS;
    }

    private static int goForwards(int from, int n) {
        int x = from;
        for (int i = 0; i < n; i++) {
            x = stepForwards(x);
        }
        return x;
    }

    private static int goBackwards(int from, int n) {
        int x = from;
        for (int i = 0; i < n; i++) {
            x = stepBackwards(x);
        }
        return x;
    }

    private static int goFrom(int from, int n) {
        if (n < 0) {
            return goBackwards(from, -n);
        }
        return goForwards(from, n);
    }

    // There are only LAST_STATE states, so a way as long as that has come
    // round to its start and meets no state that it has not met before.
    private static int countSteps(int from, int to) {
        int x = from;
        for (int n = 0; n < LAST_STATE; n++) {
            if (x == to) {
                return n;
            }
            x = stepForwards(x);
        }
        return NONE;
    }
}
