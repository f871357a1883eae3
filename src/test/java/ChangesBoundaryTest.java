/** The boundary cases of promises 1 to 8, a test for each sentence of the document. */
public final class ChangesBoundaryTest {
    private static final int NONE = -1;

    public static void main(String[] args) {
        newObjectHasState1();
        newObjectHasNoMarks();
        seedTakesTheOuterStates();
        seedRefusesTooSmall();
        seedRefusesTooLarge();
        stepIsCutTo16Bits();
        jumpGoesForwards();
        jumpGoesBackwards();
        jumpByNothing();
        jumpRefusesTooSmall();
        jumpRefusesTooLarge();
        peekDoesNotGoThere();
        peekRefusesTooSmall();
        peekRefusesTooLarge();
        markTakesEachMark();
        markTakesAFullMark();
        markRefusesTooSmall();
        markRefusesTooLarge();
        backTakesTheOuterStates();
        backRefusesAnEmptyMark();
        backRefusesTooSmall();
        backRefusesTooLarge();
        Due.end();
    }

    private static void newObjectHasState1() {
        Due.sentence("1 new object: \"State 1\"");
        Due.is("state()", new JumpGenerator().state(), 1);
        Due.is("next()", new JumpGenerator().next(), TableModel.NEXT[1]);
        Due.is("jump(0)", new JumpGenerator().jump(0), 1);
        Due.is("peek(-1)", new JumpGenerator().peek(-1), TableModel.PREVIOUS[1]);
        Due.is("distance(1)", new JumpGenerator().distance(1), 0);
        Due.is("mixed(1)", new JumpGenerator().mixed(1), 1);
        JumpGenerator used = new JumpGenerator();
        used.seed(65535);
        Due.is("state() of the next object", new JumpGenerator().state(), 1);
    }

    private static void newObjectHasNoMarks() {
        Due.sentence("1 new object: \"no marks\"");
        JumpGenerator used = new JumpGenerator();
        for (int m = 0; m < 8; m++) {
            used.mark(m);
        }
        JumpGenerator g = new JumpGenerator();
        for (int m = 0; m < 8; m++) {
            Due.is("back(" + m + ")", g.back(m), false);
            Due.is("state() after back(" + m + ")", g.state(), 1);
            for (int n = 0; n < 8; n++) {
                Due.is("between(" + m + ", " + n + ")", g.between(m, n), NONE);
            }
        }
    }

    private static void seedTakesTheOuterStates() {
        Due.sentence("2 seed: \"Makes s the current state and answers true\", at 1 and 65535");
        for (int s : new int[] {1, 2, 32767, 32768, 65534, 65535}) {
            for (Known known : Known.ofEachKind()) {
                Due.is("seed(" + s + "), " + known.name, known.g.seed(s), true);
                known.state = s;
                known.isAsKnown("seed(" + s + ")");
            }
        }
    }

    private static void seedRefusesTooSmall() {
        Due.sentence("2 seed: \"false, changing nothing, when it is not 1 ..\"");
        for (int s : Wrong.SMALL_STATES) {
            Known.refuses("seed(" + s + ")", g -> g.seed(s));
        }
    }

    private static void seedRefusesTooLarge() {
        Due.sentence("2 seed: \"false, changing nothing, when it is not .. 65535\"");
        for (int s : Wrong.LARGE_STATES) {
            Known.refuses("seed(" + s + ")", g -> g.seed(s));
        }
    }

    private static void stepIsCutTo16Bits() {
        Due.sentence("Terms, 4 next: \"all numbers are cut to their lowest 16 bits\"");
        // Each of these has a highest bit that the shift by 7 or by 8 moves out.
        int[] full = {256, 257, 511, 512, 1 << 10, 1 << 12, 1 << 15, 32767, 65280, 65534, 65535};
        for (int x : full) {
            JumpGenerator g = new JumpGenerator();
            g.seed(x);
            Due.is("next() at " + x, g.next(), TableModel.NEXT[x]);
            Due.is("state() after next() at " + x, g.state(), TableModel.NEXT[x]);
            Due.is("next() twice at " + x, g.next(), TableModel.walk(x, 2));
            Due.is("jump(-2) back to " + x, g.jump(-2), x);
            Due.is("jump(-1) from " + x, g.jump(-1), TableModel.PREVIOUS[x]);
        }
    }

    private static void jumps(int n) {
        for (Known known : Known.ofEachKind()) {
            String call = "jump(" + n + ") at " + known.state + ", " + known.name;
            int reached = TableModel.walk(known.state, n);
            Due.is(call, known.g.jump(n), reached);
            known.state = reached;
            known.isAsKnown(call);
        }
    }

    private static void jumpGoesForwards() {
        Due.sentence("5 jump: \"Goes n steps forwards (n above 0)\"");
        for (int n : new int[] {1, 2, 99999, 100000}) {
            jumps(n);
        }
    }

    private static void jumpGoesBackwards() {
        Due.sentence("5 jump: \"or backwards (n below 0: to the state from which -n steps lead"
                + " to the current one)\"");
        for (int n : new int[] {-1, -2, -99999, -100000}) {
            jumps(n);
            JumpGenerator g = new JumpGenerator();
            g.jump(n);
            Due.is("the state -n steps from jump(" + n + ")", TableModel.walk(g.state(), -n), 1);
        }
    }

    private static void jumpByNothing() {
        Due.sentence("5 jump: n neither above nor below 0");
        jumps(0);
    }

    private static void jumpRefusesTooSmall() {
        Due.sentence("5 jump: \"NONE, changing nothing, when n is not -100000 ..\"");
        for (int n : Wrong.SMALL_JUMPS) {
            Known.answersNone("jump(" + n + ")", g -> g.jump(n));
        }
    }

    private static void jumpRefusesTooLarge() {
        Due.sentence("5 jump: \"NONE, changing nothing, when n is not .. 100000\"");
        for (int n : Wrong.LARGE_JUMPS) {
            Known.answersNone("jump(" + n + ")", g -> g.jump(n));
        }
    }

    private static void peekDoesNotGoThere() {
        Due.sentence("6 peek: \"as in jump, without going there\"");
        for (int n : new int[] {-100000, -99999, -2, -1, 0, 1, 2, 99999, 100000}) {
            for (Known known : Known.ofEachKind()) {
                int due = TableModel.walk(known.state, n);
                known.answers("peek(" + n + ")", g -> g.peek(n), due);
                Due.is("jump(" + n + ") after peek", known.g.jump(n), due);
            }
        }
    }

    private static void peekRefusesTooSmall() {
        Due.sentence("6 peek: \"NONE when n is not -100000 ..\"");
        for (int n : Wrong.SMALL_JUMPS) {
            Known.answersNone("peek(" + n + ")", g -> g.peek(n));
        }
    }

    private static void peekRefusesTooLarge() {
        Due.sentence("6 peek: \"NONE when n is not .. 100000\"");
        for (int n : Wrong.LARGE_JUMPS) {
            Known.answersNone("peek(" + n + ")", g -> g.peek(n));
        }
    }

    private static void marks(Known known, int m) {
        String call = "mark(" + m + ")";
        Due.is(call + ", " + known.name, known.g.mark(m), true);
        known.marks[m] = known.state;
        known.isAsKnown(call);
    }

    private static void markTakesEachMark() {
        Due.sentence("7 mark: \"Puts the current state into mark m and answers true\", 0 to 7");
        for (int m = 0; m < 8; m++) {
            for (Known known : Known.ofEachKind()) {
                marks(known, m);
            }
        }
    }

    private static void markTakesAFullMark() {
        Due.sentence("7 mark: \"Puts the current state into mark m\", which holds one already");
        for (int m = 0; m < 8; m++) {
            Known known = Known.withAllMarks();
            marks(known, m);
            marks(known, m);
            known.g.seed(65535);
            known.state = 65535;
            marks(known, m);
            known.g.seed(1);
            known.state = 1;
            marks(known, m);
        }
    }

    private static void markRefusesTooSmall() {
        Due.sentence("7 mark: \"false when m is not 0 ..\"");
        for (int m : Wrong.SMALL_MARKS) {
            Known.refuses("mark(" + m + ")", g -> g.mark(m));
        }
    }

    private static void markRefusesTooLarge() {
        Due.sentence("7 mark: \"false when m is not .. 7\"");
        for (int m : Wrong.LARGE_MARKS) {
            Known.refuses("mark(" + m + ")", g -> g.mark(m));
        }
    }

    private static void backTakesTheOuterStates() {
        Due.sentence("8 back: \"Makes the state of mark m the current one and answers true\", 0 to 7");
        for (int m = 0; m < 8; m++) {
            for (int s : new int[] {1, 65535}) {
                Known known = Known.withNoMarks();
                known.g.seed(s);
                known.g.mark(m);
                known.g.seed(300);
                known.marks[m] = s;
                known.state = s;
                Due.is("back(" + m + ") to " + s, known.g.back(m), true);
                known.isAsKnown("back(" + m + ")");
            }
        }
    }

    private static void backRefusesAnEmptyMark() {
        Due.sentence("8 back: \"false when it holds nothing\"");
        for (int m = 0; m < 8; m++) {
            for (Known known : Known.ofEachKind()) {
                if (!known.holds(m)) {
                    Due.is("back(" + m + "), " + known.name, known.g.back(m), false);
                    known.isAsKnown("back(" + m + ")");
                }
            }
        }
    }

    private static void backRefusesTooSmall() {
        Due.sentence("8 back: \"false when .. m is not 0 ..\"");
        for (int m : Wrong.SMALL_MARKS) {
            Known.refuses("back(" + m + ")", g -> g.back(m));
        }
    }

    private static void backRefusesTooLarge() {
        Due.sentence("8 back: \"false when .. m is not .. 7\"");
        for (int m : Wrong.LARGE_MARKS) {
            Known.refuses("back(" + m + ")", g -> g.back(m));
        }
    }
}
