/** The boundary cases of promises 9 to 15, a test for each sentence of the document. */
public final class AnswersBoundaryTest {
    private static final int NONE = -1;
    private static final int[] OUTER_STATES = {1, 2, 65534, 65535};
    private static final int[] OUTER_COUNTS = {0, 1, 2, 99999, 100000};

    public static void main(String[] args) {
        distanceIsTheLeast();
        distanceHasNoNoneWithin();
        distanceRefusesTooSmall();
        distanceRefusesTooLarge();
        betweenIsTheLeast();
        betweenRefusesAnEmptyMark();
        betweenRefusesTooSmall();
        betweenRefusesTooLarge();
        mixedOfNothing();
        mixedTakesTheOuterCounts();
        mixedRefusesTooSmall();
        mixedRefusesTooLarge();
        periodIsTheFirstTime();
        beforeTakesTheOuterValues();
        beforeRefusesTheState();
        beforeRefusesTheCount();
        apartTakesTheOuterValues();
        apartOfTheSame();
        apartRefusesTheFirstState();
        apartRefusesTheSecondState();
        apartRefusesTheCount();
        nextRoundTakesTheOuterBits();
        nextRoundIsTheLeastForEveryState();
        nextRoundRefusesTooSmall();
        nextRoundRefusesTooLarge();
        Due.end();
    }

    private static void distanceIsTheLeast() {
        Due.sentence("9 distance: \"The least number of steps, 0 or more\"");
        for (Known known : Known.ofEachKind()) {
            int state = known.state;
            int next = TableModel.NEXT[state];
            int previous = TableModel.PREVIOUS[state];
            known.answers("distance(" + state + ")", g -> g.distance(state), 0);
            known.answers("distance(" + next + ")", g -> g.distance(next), 1);
            known.answers("distance(" + previous + ")", g -> g.distance(previous), 65534);
            for (int s : OUTER_STATES) {
                int due = TableModel.steps(state, s);
                known.answers("distance(" + s + ")", g -> g.distance(s), due);
            }
        }
    }

    // The steps lead through all states before one comes again, so that no right s has none.
    private static void distanceHasNoNoneWithin() {
        Due.sentence("9 distance: \"NONE when there is none\", which no right s is");
        int x = 40000;
        JumpGenerator g = new JumpGenerator();
        for (int n = 0; n < TableModel.STATES; n++) {
            if (n % 500 == 0) {
                g = new JumpGenerator();
                g.seed(40000);
            }
            Due.is("distance(" + x + ") at 40000", g.distance(x), n);
            x = TableModel.NEXT[x];
        }
    }

    private static void distanceRefusesTooSmall() {
        Due.sentence("9 distance: \"NONE when .. s is not 1 ..\"");
        for (int s : Wrong.SMALL_STATES) {
            Known.answersNone("distance(" + s + ")", g -> g.distance(s));
        }
    }

    private static void distanceRefusesTooLarge() {
        Due.sentence("9 distance: \"NONE when .. s is not .. 65535\"");
        for (int s : Wrong.LARGE_STATES) {
            Known.answersNone("distance(" + s + ")", g -> g.distance(s));
        }
    }

    private static void betweenIsTheLeast() {
        Due.sentence("10 between: \"The least number of steps, 0 or more\"");
        for (int m = 0; m < 8; m++) {
            Known known = Known.withAllMarks();
            for (int n = 0; n < 8; n++) {
                int first = m;
                int second = n;
                int due = TableModel.steps(known.marks[m], known.marks[n]);
                known.answers("between(" + m + ", " + n + ")", g -> g.between(first, second), due);
            }
        }
        JumpGenerator g = new JumpGenerator();
        g.mark(0);
        g.mark(3);
        g.next();
        g.mark(7);
        Due.is("between(0, 3), the same state", g.between(0, 3), 0);
        Due.is("between(0, 7), a step", g.between(0, 7), 1);
        Due.is("between(7, 0), all steps but one", g.between(7, 0), 65534);
    }

    private static void betweenRefusesAnEmptyMark() {
        Due.sentence("10 between: \"NONE when .. one of them holds nothing\"");
        for (int m = 0; m < 8; m++) {
            for (int n = 0; n < 8; n++) {
                int first = m;
                int second = n;
                for (Known known : Known.ofEachKind()) {
                    if (!known.holds(m) || !known.holds(n)) {
                        String call = "between(" + m + ", " + n + ")";
                        known.answers(call, g -> g.between(first, second), NONE);
                    }
                }
            }
        }
    }

    private static void betweenRefuses(int wrong) {
        for (int m = 0; m < 8; m++) {
            int right = m;
            Known.answersNone("between(" + wrong + ", " + m + ")", g -> g.between(wrong, right));
            Known.answersNone("between(" + m + ", " + wrong + ")", g -> g.between(right, wrong));
        }
        Known.answersNone("between(" + wrong + ", " + wrong + ")", g -> g.between(wrong, wrong));
    }

    private static void betweenRefusesTooSmall() {
        Due.sentence("10 between: \"NONE when .. one of them .. is not 0 ..\"");
        for (int wrong : Wrong.SMALL_MARKS) {
            betweenRefuses(wrong);
        }
    }

    private static void betweenRefusesTooLarge() {
        Due.sentence("10 between: \"NONE when .. one of them .. is not .. 7\"");
        for (int wrong : Wrong.LARGE_MARKS) {
            betweenRefuses(wrong);
        }
    }

    private static void mixedOfNothing() {
        Due.sentence("11 mixed: \"(0 for n = 0)\"");
        for (Known known : Known.ofEachKind()) {
            known.answers("mixed(0)", g -> g.mixed(0), 0);
        }
    }

    private static int mixOf(int from, int n) {
        int mix = 0;
        int x = from;
        for (int i = 0; i < n; i++) {
            mix ^= x;
            x = TableModel.NEXT[x];
        }
        return mix;
    }

    private static void mixedTakesTheOuterCounts() {
        Due.sentence("11 mixed: \"the states after 1, 2, .., n - 1 steps\", up to n = 100000");
        for (int n : new int[] {1, 2, 3, 99999, 100000}) {
            for (Known known : Known.ofEachKind()) {
                known.answers("mixed(" + n + ")", g -> g.mixed(n), mixOf(known.state, n));
            }
        }
    }

    private static void mixedRefusesTooSmall() {
        Due.sentence("11 mixed: \"NONE when n is not 0 ..\"");
        for (int n : Wrong.SMALL_COUNTS) {
            Known.answersNone("mixed(" + n + ")", g -> g.mixed(n));
        }
    }

    private static void mixedRefusesTooLarge() {
        Due.sentence("11 mixed: \"NONE when n is not .. 100000\"");
        for (int n : Wrong.LARGE_COUNTS) {
            Known.answersNone("mixed(" + n + ")", g -> g.mixed(n));
        }
    }

    private static int firstTimeAgain(int from) {
        int n = 1;
        for (int x = TableModel.NEXT[from]; x != from; x = TableModel.NEXT[x]) {
            n++;
        }
        return n;
    }

    private static void periodIsTheFirstTime() {
        Due.sentence("12 period: \"after which the current state comes again for the first time\"");
        for (Known known : Known.ofEachKind()) {
            known.answers("period()", g -> g.period(), firstTimeAgain(known.state));
        }
        for (int s = 1; s <= TableModel.STATES; s += 257) {
            JumpGenerator g = new JumpGenerator();
            g.seed(s);
            int period = g.period();
            Due.is("period() at " + s, period, firstTimeAgain(s));
            Due.is("peek(period()) at " + s, g.peek(period), s);
        }
    }

    private static void beforeTakesTheOuterValues() {
        Due.sentence("13 before: \"The state from which n steps lead to the state s\"");
        for (int s : OUTER_STATES) {
            for (int n : OUTER_COUNTS) {
                for (Known known : Known.ofEachKind()) {
                    int due = TableModel.walk(s, -n);
                    known.answers("before(" + s + ", " + n + ")", g -> g.before(s, n), due);
                }
            }
        }
    }

    private static void beforeRefusesTheState() {
        Due.sentence("13 before: \"NONE when s is not 1 .. 65535\"");
        for (int s : Wrong.STATES) {
            for (int n : OUTER_COUNTS) {
                Known.answersNone("before(" + s + ", " + n + ")", g -> g.before(s, n));
            }
        }
    }

    private static void beforeRefusesTheCount() {
        Due.sentence("13 before: \"or n is not 0 .. 100000\"");
        for (int n : Wrong.COUNTS) {
            for (int s : OUTER_STATES) {
                Known.answersNone("before(" + s + ", " + n + ")", g -> g.before(s, n));
            }
            Known.answersNone("before(0, " + n + ")", g -> g.before(0, n));
            Known.answersNone("before(65536, " + n + ")", g -> g.before(65536, n));
        }
    }

    private static String apartOf(int s, int t, int n) {
        return "apart(" + s + ", " + t + ", " + n + ")";
    }

    private static void apartTakesTheOuterValues() {
        Due.sentence("14 apart: \"the states that n steps lead to from s and from t\"");
        for (int s : OUTER_STATES) {
            for (int t : OUTER_STATES) {
                for (int n : OUTER_COUNTS) {
                    int due = TableModel.walk(s, n) ^ TableModel.walk(t, n);
                    Known.withAllMarks().answers(apartOf(s, t, n), g -> g.apart(s, t, n), due);
                }
            }
        }
    }

    private static void apartOfTheSame() {
        Due.sentence("14 apart: \"(0 when these are the same)\"");
        for (int s : new int[] {1, 2, 256, 32768, 65534, 65535}) {
            for (int n : OUTER_COUNTS) {
                for (Known known : Known.ofEachKind()) {
                    known.answers(apartOf(s, s, n), g -> g.apart(s, s, n), 0);
                }
            }
        }
    }

    private static void apartRefusesTheFirstState() {
        Due.sentence("14 apart: \"NONE when s .. is not 1 .. 65535\"");
        for (int s : Wrong.STATES) {
            for (int n : OUTER_COUNTS) {
                Known.answersNone(apartOf(s, 1, n), g -> g.apart(s, 1, n));
                Known.answersNone(apartOf(s, 65535, n), g -> g.apart(s, 65535, n));
                Known.answersNone(apartOf(s, s, n), g -> g.apart(s, s, n));
            }
        }
    }

    private static void apartRefusesTheSecondState() {
        Due.sentence("14 apart: \"NONE when .. t is not 1 .. 65535\"");
        for (int t : Wrong.STATES) {
            for (int n : OUTER_COUNTS) {
                Known.answersNone(apartOf(1, t, n), g -> g.apart(1, t, n));
                Known.answersNone(apartOf(65535, t, n), g -> g.apart(65535, t, n));
            }
        }
    }

    private static void apartRefusesTheCount() {
        Due.sentence("14 apart: \"or n is not 0 .. 100000\"");
        for (int n : Wrong.COUNTS) {
            for (int s : OUTER_STATES) {
                Known.answersNone(apartOf(s, s, n), g -> g.apart(s, s, n));
                Known.answersNone(apartOf(s, 300, n), g -> g.apart(s, 300, n));
                Known.answersNone(apartOf(300, s, n), g -> g.apart(300, s, n));
            }
            Known.answersNone(apartOf(0, 65536, n), g -> g.apart(0, 65536, n));
        }
    }

    private static boolean hasLowBits0(int x, int k) {
        for (int bit = 0, value = x; bit < k; bit++, value /= 2) {
            if (value % 2 != 0) {
                return false;
            }
        }
        return true;
    }

    private static int roundFrom(int from, int k) {
        int x = from;
        for (int n = 0; n <= 100000; n++) {
            if (hasLowBits0(x, k)) {
                return n;
            }
            x = TableModel.NEXT[x];
        }
        return NONE;
    }

    private static void nextRoundTakesTheOuterBits() {
        Due.sentence("15 nextRound: \"its lowest k bits all 0\", k = 0 to 8");
        for (int k = 0; k <= 8; k++) {
            int bits = k;
            for (Known known : Known.ofEachKind()) {
                int due = roundFrom(known.state, k);
                known.answers("nextRound(" + k + ")", g -> g.nextRound(bits), due);
            }
            // The state with just the lowest k bits 0, and the one with a bit fewer.
            JumpGenerator g = new JumpGenerator();
            g.seed(1 << k);
            Due.is("nextRound(" + k + ") at " + (1 << k), g.nextRound(k), 0);
            if (k < 8) {
                int more = k + 1;
                Due.is("nextRound(" + more + ") at " + (1 << k), g.nextRound(more), roundFrom(1 << k, more));
            }
        }
    }

    // The longest way is 1773 steps (k = 8, at 30253), so that no right k has none.
    private static void nextRoundIsTheLeastForEveryState() {
        Due.sentence("15 nextRound: \"The least n, 0 or more and at most 100000\"; \"NONE when there is"
                + " none\", which no right k has");
        JumpGenerator g = new JumpGenerator();
        int longest = 0;
        for (int s = 1; s <= TableModel.STATES; s++) {
            if (s % 50 == 0) {
                g = new JumpGenerator();
            }
            g.seed(s);
            for (int k = 0; k <= 8; k++) {
                int n = g.nextRound(k);
                Due.is("nextRound(" + k + ") at " + s, n, roundFrom(s, k));
                longest = n > longest ? n : longest;
            }
        }
        Due.is("the longest way of nextRound", longest, 1773);
    }

    private static void nextRoundRefusesTooSmall() {
        Due.sentence("15 nextRound: \"NONE when .. k is not 0 ..\"");
        for (int k : Wrong.SMALL_BITS) {
            Known.answersNone("nextRound(" + k + ")", g -> g.nextRound(k));
        }
    }

    private static void nextRoundRefusesTooLarge() {
        Due.sentence("15 nextRound: \"NONE when .. k is not .. 8\"");
        for (int k : Wrong.LARGE_BITS) {
            Known.answersNone("nextRound(" + k + ")", g -> g.nextRound(k));
        }
    }
}
