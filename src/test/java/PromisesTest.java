/** Promises 1 to 15, one by one: ordinary inputs, the edges, and wrong inputs. */
public final class PromisesTest {
    private static final int NONE = -1;
    private static final int START = 21845;
    private static final int MARK_0 = 256;
    private static final int MARK_7 = 4660;

    public static void main(String[] args) {
        promise1NewObject();
        promise2Seed();
        promise3State();
        promise4Next();
        promise5Jump();
        promise6Peek();
        promise7Mark();
        promise8Back();
        promise9Distance();
        promise10Between();
        promise11Mixed();
        promise12Period();
        promise13Before();
        promise14Apart();
        promise15NextRound();
        Due.end();
    }

    private static JumpGenerator at(int state) {
        JumpGenerator g = new JumpGenerator();
        Due.is("seed(" + state + ") on a new object", g.seed(state), true);
        return g;
    }

    private static JumpGenerator prepared() {
        JumpGenerator g = at(MARK_0);
        g.mark(0);
        g.seed(MARK_7);
        g.mark(7);
        g.seed(START);
        return g;
    }

    /** Looks whether the calls since prepared() have changed something. */
    private static void unchanged(String promise, JumpGenerator g) {
        Due.is(promise + ": state() afterwards", g.state(), START);
        for (int m = 1; m < 7; m++) {
            Due.is(promise + ": back(" + m + ") afterwards", g.back(m), false);
        }
        Due.is(promise + ": state() after empty marks", g.state(), START);
        Due.is(promise + ": back(0) afterwards", g.back(0), true);
        Due.is(promise + ": state of mark 0", g.state(), MARK_0);
        Due.is(promise + ": back(7) afterwards", g.back(7), true);
        Due.is(promise + ": state of mark 7", g.state(), MARK_7);
    }

    private static void promise1NewObject() {
        Due.sentence("1 new object: \"State 1, no marks\"");
        JumpGenerator g = new JumpGenerator();
        Due.is("1: state()", g.state(), 1);
        for (int m = 0; m < 8; m++) {
            Due.is("1: back(" + m + ")", g.back(m), false);
            Due.is("1: between(" + m + ", " + m + ")", g.between(m, m), NONE);
        }
        Due.is("1: state() after back", g.state(), 1);
        JumpGenerator other = new JumpGenerator();
        g.seed(77);
        g.mark(3);
        Due.is("1: state() of another object", other.state(), 1);
        Due.is("1: back(3) of another object", other.back(3), false);
    }

    private static void promise2Seed() {
        Due.sentence("2 seed: \"Makes s the current state and answers true; false, changing nothing, when ..\"");
        JumpGenerator g = prepared();
        for (int s : Wrong.STATES) {
            Due.is("2: seed(" + s + ")", g.seed(s), false);
            Due.is("2: state() after seed(" + s + ")", g.state(), START);
        }
        unchanged("2", g);
        for (int s : new int[] {1, 2, 255, 256, 32767, 32768, 65534, 65535}) {
            Due.is("2: seed(" + s + ")", g.seed(s), true);
            Due.is("2: state() after seed(" + s + ")", g.state(), s);
        }
        g.seed(START);
        unchanged("2, right seeds", g);
    }

    private static void promise3State() {
        Due.sentence("3 state: \"The current state\"");
        JumpGenerator g = prepared();
        Due.is("3: state()", g.state(), START);
        Due.is("3: state() again", g.state(), START);
        unchanged("3", g);
        g.next();
        Due.is("3: state() after next()", g.state(), 14384);
        g.jump(-1);
        Due.is("3: state() after jump(-1)", g.state(), MARK_7);
        g.back(0);
        Due.is("3: state() after back(0)", g.state(), MARK_0);
        g.seed(65535);
        Due.is("3: state() after seed(65535)", g.state(), 65535);
        g.mark(4);
        Due.is("3: state() after mark(4)", g.state(), 65535);
        g.peek(3);
        Due.is("3: state() after peek(3)", g.state(), 65535);
    }

    private static void promise4Next() {
        Due.sentence("4 next: \"Steps once and answers the new state\"");
        JumpGenerator g = new JumpGenerator();
        int[] after1 = {33153, 24609};
        for (int x : after1) {
            Due.is("4: next()", g.next(), x);
            Due.is("4: state() after next()", g.state(), x);
        }
        int[][] rows = {{65535, 32639}, {32768, 49216}, {256, 49472}, {49537, 1}};
        for (int[] row : rows) {
            JumpGenerator stepped = at(row[0]);
            Due.is("4: next() at " + row[0], stepped.next(), row[1]);
            Due.is("4: state() after next() at " + row[0], stepped.state(), row[1]);
            Due.is("4: distance() back to " + row[0], stepped.distance(row[0]), 65534);
        }
        JumpGenerator kept = prepared();
        kept.next();
        kept.next();
        kept.jump(-2);
        unchanged("4", kept);
    }

    // The states that lie so many steps from START.
    private static final int[][] FROM_START = {
        {0, START}, {1, 21930}, {2, 27370}, {-1, 27349}, {-2, 64138},
        {1000, 58783}, {-1000, 56291}, {65534, 27349}, {65535, START}, {65536, 21930},
        {-65534, 21930}, {-65535, START}, {-65536, 27349},
        {99999, 51632}, {-99999, 31929}, {100000, 43448}, {-100000, 59483}};

    private static void promise5Jump() {
        Due.sentence("5 jump: \"Goes n steps .., and answers the new state; NONE, changing nothing, when ..\"");
        JumpGenerator g = prepared();
        for (int n : Wrong.JUMPS) {
            Due.is("5: jump(" + n + ")", g.jump(n), NONE);
            Due.is("5: state() after jump(" + n + ")", g.state(), START);
        }
        for (int[] row : FROM_START) {
            Due.is("5: jump(" + row[0] + ")", g.jump(row[0]), row[1]);
            Due.is("5: state() after jump(" + row[0] + ")", g.state(), row[1]);
            Due.is("5: jump(" + -row[0] + ") back", g.jump(-row[0]), START);
        }
        unchanged("5", g);
    }

    private static void promise6Peek() {
        Due.sentence("6 peek: \"The state n steps from the current one ..; NONE when ..\"");
        JumpGenerator g = prepared();
        for (int n : Wrong.JUMPS) {
            Due.is("6: peek(" + n + ")", g.peek(n), NONE);
        }
        for (int[] row : FROM_START) {
            Due.is("6: peek(" + row[0] + ")", g.peek(row[0]), row[1]);
            Due.is("6: state() after peek(" + row[0] + ")", g.state(), START);
        }
        unchanged("6", g);
    }

    private static void promise7Mark() {
        Due.sentence("7 mark: \"Puts the current state into mark m and answers true; false when ..\"");
        JumpGenerator g = prepared();
        for (int m : Wrong.MARKS) {
            Due.is("7: mark(" + m + ")", g.mark(m), false);
        }
        unchanged("7", g);
        for (int m = 0; m < 8; m++) {
            g.seed(1000 + m);
            Due.is("7: mark(" + m + ")", g.mark(m), true);
            Due.is("7: state() after mark(" + m + ")", g.state(), 1000 + m);
        }
        g.seed(65535);
        Due.is("7: mark(3) again", g.mark(3), true);
        g.next();
        for (int m = 0; m < 8; m++) {
            g.back(m);
            Due.is("7: state of mark " + m, g.state(), m == 3 ? 65535 : 1000 + m);
        }
    }

    private static void promise8Back() {
        Due.sentence("8 back: \"Makes the state of mark m the current one and answers true; false when ..\"");
        JumpGenerator g = prepared();
        for (int m : Wrong.MARKS) {
            Due.is("8: back(" + m + ")", g.back(m), false);
            Due.is("8: state() after back(" + m + ")", g.state(), START);
        }
        unchanged("8", g);
        Due.is("8: back(0)", g.back(0), true);
        Due.is("8: next() after back(0)", g.next(), 49472);
        Due.is("8: back(0) again", g.back(0), true);
        Due.is("8: state() after back(0) again", g.state(), MARK_0);
        g.seed(START);
        unchanged("8, right marks", g);
        JumpGenerator edges = new JumpGenerator();
        edges.mark(1);
        edges.seed(65535);
        edges.mark(2);
        Due.is("8: back(1) to the state 1", edges.back(1), true);
        Due.is("8: state() at mark 1", edges.state(), 1);
        Due.is("8: back(2) to the state 65535", edges.back(2), true);
        Due.is("8: state() at mark 2", edges.state(), 65535);
    }

    private static void promise9Distance() {
        Due.sentence("9 distance: \"from the current state to the state s; NONE when ..\"");
        JumpGenerator g = prepared();
        for (int s : Wrong.STATES) {
            Due.is("9: distance(" + s + ")", g.distance(s), NONE);
        }
        int[][] rows = {{START, 0}, {21930, 1}, {27370, 2}, {27349, 65534}, {64138, 65533},
            {1, 40458}, {65535, 29459}, {MARK_0, 62227}, {MARK_7, 52199}};
        for (int[] row : rows) {
            Due.is("9: distance(" + row[0] + ")", g.distance(row[0]), row[1]);
        }
        unchanged("9", g);
        Due.is("9: distance(1) at 1", at(1).distance(1), 0);
        Due.is("9: distance(65535) at 1", at(1).distance(65535), 54536);
        Due.is("9: distance(1) at 65535", at(65535).distance(1), 65535 - 54536);
    }

    private static void promise10Between() {
        Due.sentence("10 between: \"from the state of mark m to that of mark n; NONE when ..\"");
        JumpGenerator g = prepared();
        for (int m : Wrong.MARKS) {
            Due.is("10: between(" + m + ", 0)", g.between(m, 0), NONE);
            Due.is("10: between(7, " + m + ")", g.between(7, m), NONE);
            Due.is("10: between(" + m + ", " + m + ")", g.between(m, m), NONE);
        }
        for (int m = 1; m < 7; m++) {
            Due.is("10: between(" + m + ", 0)", g.between(m, 0), NONE);
            Due.is("10: between(7, " + m + ")", g.between(7, m), NONE);
            Due.is("10: between(" + m + ", " + m + ")", g.between(m, m), NONE);
        }
        Due.is("10: between(0, 7)", g.between(0, 7), 55507);
        Due.is("10: between(7, 0)", g.between(7, 0), 10028);
        Due.is("10: between(0, 0)", g.between(0, 0), 0);
        Due.is("10: between(7, 7)", g.between(7, 7), 0);
        unchanged("10", g);
        g.next();
        g.mark(1);
        g.jump(-1);
        g.mark(2);
        Due.is("10: between(2, 1), a step", g.between(2, 1), 1);
        Due.is("10: between(1, 2), all steps but one", g.between(1, 2), 65534);
        Due.is("10: between(7, 2), the same state", g.between(7, 2), 0);
    }

    private static void promise11Mixed() {
        Due.sentence("11 mixed: \"The exclusive or of the current state and ..; NONE when ..\"");
        JumpGenerator g = prepared();
        for (int n : Wrong.COUNTS) {
            Due.is("11: mixed(" + n + ")", g.mixed(n), NONE);
        }
        int[][] rows = {{0, 0}, {1, START}, {2, 255}, {3, 27157}, {10, 61696}, {65534, 27349},
            {65535, 0}, {65536, START}, {99999, 57937}, {100000, 11233}};
        for (int[] row : rows) {
            Due.is("11: mixed(" + row[0] + ")", g.mixed(row[0]), row[1]);
        }
        unchanged("11", g);
    }

    private static void promise12Period() {
        Due.sentence("12 period: \"The number of steps after which the current state comes again\"");
        JumpGenerator g = prepared();
        Due.is("12: period()", g.period(), 65535);
        unchanged("12", g);
        for (int s : new int[] {1, 2, 256, 32768, 40000, 65534, 65535}) {
            Due.is("12: period() at " + s, at(s).period(), 65535);
        }
    }

    private static void promise13Before() {
        Due.sentence("13 before: \"The state from which n steps lead to the state s; NONE when ..\"");
        JumpGenerator g = prepared();
        for (int s : Wrong.STATES) {
            Due.is("13: before(" + s + ", 1)", g.before(s, 1), NONE);
            Due.is("13: before(" + s + ", 0)", g.before(s, 0), NONE);
        }
        for (int n : Wrong.COUNTS) {
            Due.is("13: before(1, " + n + ")", g.before(1, n), NONE);
            Due.is("13: before(0, " + n + ")", g.before(0, n), NONE);
        }
        int[][] rows = {{1, 0, 1}, {1, 1, 49537}, {1, 2, 20513}, {1, 65534, 33153}, {1, 65535, 1},
            {1, 100000, 26510}, {65535, 0, 65535}, {65535, 1, 49023}, {65535, 65534, 32639},
            {65535, 65535, 65535}, {65535, 100000, 56002}, {256, 2, 8512}, {256, 100000, 59149},
            {5, 12345, 3276}, {START, 99999, 31929}};
        for (int[] row : rows) {
            Due.is("13: before(" + row[0] + ", " + row[1] + ")", g.before(row[0], row[1]), row[2]);
        }
        unchanged("13", g);
    }

    private static void promise14Apart() {
        Due.sentence("14 apart: \"The exclusive or of the states ..; NONE when ..\"");
        JumpGenerator g = prepared();
        for (int s : Wrong.STATES) {
            Due.is("14: apart(" + s + ", 1, 1)", g.apart(s, 1, 1), NONE);
            Due.is("14: apart(65535, " + s + ", 0)", g.apart(65535, s, 0), NONE);
            Due.is("14: apart(" + s + ", " + s + ", 0)", g.apart(s, s, 0), NONE);
        }
        for (int n : Wrong.COUNTS) {
            Due.is("14: apart(1, 2, " + n + ")", g.apart(1, 2, n), NONE);
            Due.is("14: apart(9, 9, " + n + ")", g.apart(9, 9, n), NONE);
        }
        int[][] rows = {{1, 65535, 0, 65534}, {1, 65535, 1, 65278}, {65535, 1, 1, 65278},
            {1, 65535, 100000, 13533}, {1, 2, 65535, 3}, {MARK_0, MARK_7, 99999, 61872},
            {3, 4, 100, 8602}, {9, 9, 0, 0}, {9, 9, 5, 0}, {1, 1, 100000, 0}};
        for (int[] row : rows) {
            String call = "14: apart(" + row[0] + ", " + row[1] + ", " + row[2] + ")";
            Due.is(call, g.apart(row[0], row[1], row[2]), row[3]);
        }
        unchanged("14", g);
    }

    private static void promise15NextRound() {
        Due.sentence("15 nextRound: \"The least n ..; NONE when ..\"");
        JumpGenerator g = prepared();
        for (int k : Wrong.BITS) {
            Due.is("15: nextRound(" + k + ")", g.nextRound(k), NONE);
        }
        int[] rounds = {0, 1, 6, 6, 6, 11, 11, 201, 201};
        for (int k = 0; k < rounds.length; k++) {
            Due.is("15: nextRound(" + k + ")", g.nextRound(k), rounds[k]);
            Due.is("15: nextRound(" + k + ") at 256", at(256).nextRound(k), 0);
        }
        unchanged("15", g);
        Due.is("15: nextRound(7) at 128", at(128).nextRound(7), 0);
        Due.is("15: nextRound(8) at 128", at(128).nextRound(8), 259);
        Due.is("15: nextRound(8), the longest way", at(30253).nextRound(8), 1773);
    }
}
