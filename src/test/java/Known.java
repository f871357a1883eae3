import java.util.function.Predicate;
import java.util.function.ToIntFunction;

/** A new object whose current state and eight marks are known, to see what a call changes. */
final class Known {
    private static final int NOTHING = 0;

    final JumpGenerator g = new JumpGenerator();
    final String name;
    int state;
    final int[] marks;

    private Known(String name, int state, int... marks) {
        this.name = name;
        this.state = state;
        this.marks = marks;
        for (int m = 0; m < 8; m++) {
            if (marks[m] != NOTHING) {
                g.seed(marks[m]);
                g.mark(m);
            }
        }
        g.seed(state);
    }

    static Known withNoMarks() {
        return new Known("no marks", 1, 0, 0, 0, 0, 0, 0, 0, 0);
    }

    static Known withAllMarks() {
        return new Known("all marks", 21930, 1, 65535, 256, 4660, 32768, 21845, 2, 65534);
    }

    /** One object of each kind: no marks, all of them, only the outer ones, only the inner ones. */
    static Known[] ofEachKind() {
        return new Known[] {
            withNoMarks(),
            withAllMarks(),
            new Known("marks 0 and 7", 65535, 256, 0, 0, 0, 0, 0, 0, 4660),
            new Known("marks 1 to 6", 2, 0, 5, 65535, 1, 7, 32768, 40000, 0)};
    }

    boolean holds(int m) {
        return marks[m] != NOTHING;
    }

    /** Looks at the current state and at all eight marks; afterwards they are as before. */
    void isAsKnown(String after) {
        String where = " after " + after + ", " + name;
        Due.is("state()" + where, g.state(), state);
        int reached = state;
        for (int m = 0; m < 8; m++) {
            Due.is("back(" + m + ")" + where, g.back(m), holds(m));
            reached = holds(m) ? marks[m] : reached;
            Due.is("state() after back(" + m + ")" + where, g.state(), reached);
        }
        g.seed(state);
    }

    /** The call answers false, however often it is made, and changes nothing. */
    static void refuses(String call, Predicate<JumpGenerator> made) {
        for (Known known : ofEachKind()) {
            Due.is(call + ", " + known.name, made.test(known.g), false);
            known.isAsKnown(call);
            Due.is(call + " again, " + known.name, made.test(known.g), false);
            known.isAsKnown(call + " again");
        }
    }

    /** The call answers NONE, however often it is made, and changes nothing. */
    static void answersNone(String call, ToIntFunction<JumpGenerator> made) {
        for (Known known : ofEachKind()) {
            known.answers(call, made, -1);
            known.answers(call + " again", made, -1);
        }
    }

    /** The call gives the answer and changes nothing. */
    void answers(String call, ToIntFunction<JumpGenerator> made, int due) {
        Due.is(call + " at " + state + ", " + name, made.applyAsInt(g), due);
        isAsKnown(call);
    }
}
