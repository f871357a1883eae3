/**
 * A slow model of the document, written apart from the program: a step is reckoned by
 * multiplying and dividing, a step back is looked up in the table of all steps.
 */
final class TableModel {
    static final int STATES = 65535;
    static final int[] NEXT = new int[STATES + 1];
    static final int[] PREVIOUS = new int[STATES + 1];

    static {
        for (int x = 1; x <= STATES; x++) {
            NEXT[x] = reckonStep(x);
            PREVIOUS[NEXT[x]] = x;
        }
    }

    int state = 1;
    final Integer[] marks = new Integer[8];

    private static int reckonStep(long x) {
        long y = (x ^ (x * 128)) % 65536;
        y = y ^ (y / 512);
        return (int) ((y ^ (y * 256)) % 65536);
    }

    static int walk(int from, int n) {
        int x = from;
        for (int i = 0; i < n; i++) {
            x = NEXT[x];
        }
        for (int i = 0; i > n; i--) {
            x = PREVIOUS[x];
        }
        return x;
    }

    static int steps(int from, int to) {
        int x = from;
        int n = 0;
        while (x != to) {
            x = NEXT[x];
            n++;
            if (x == from) {
                return -1;
            }
        }
        return n;
    }

    private static boolean within(int low, int n, int high) {
        return low <= n && n <= high;
    }

    boolean seed(int s) {
        if (within(1, s, STATES)) {
            state = s;
            return true;
        }
        return false;
    }

    int next() {
        state = NEXT[state];
        return state;
    }

    int peek(int n) {
        return within(-100000, n, 100000) ? walk(state, n) : -1;
    }

    int jump(int n) {
        int reached = peek(n);
        state = reached == -1 ? state : reached;
        return reached;
    }

    boolean mark(int m) {
        if (within(0, m, 7)) {
            marks[m] = state;
            return true;
        }
        return false;
    }

    private boolean holds(int m) {
        return within(0, m, 7) && marks[m] != null;
    }

    boolean back(int m) {
        if (holds(m)) {
            state = marks[m];
            return true;
        }
        return false;
    }

    int distance(int s) {
        return within(1, s, STATES) ? steps(state, s) : -1;
    }

    int between(int m, int n) {
        return holds(m) && holds(n) ? steps(marks[m], marks[n]) : -1;
    }

    int mixed(int n) {
        if (!within(0, n, 100000)) {
            return -1;
        }
        int mix = 0;
        int x = state;
        for (int i = 0; i < n; i++) {
            mix ^= x;
            x = NEXT[x];
        }
        return mix;
    }

    int period() {
        return 1 + steps(NEXT[state], state);
    }

    int before(int s, int n) {
        return within(1, s, STATES) && within(0, n, 100000) ? walk(s, -n) : -1;
    }

    int apart(int s, int t, int n) {
        boolean fits = within(1, s, STATES) && within(1, t, STATES) && within(0, n, 100000);
        return fits ? walk(s, n) ^ walk(t, n) : -1;
    }

    int nextRound(int k) {
        if (!within(0, k, 8)) {
            return -1;
        }
        int divisor = 1;
        for (int i = 0; i < k; i++) {
            divisor *= 2;
        }
        int x = state;
        for (int n = 0; n <= 100000; n++) {
            if (x % divisor == 0) {
                return n;
            }
            x = NEXT[x];
        }
        return -1;
    }
}
