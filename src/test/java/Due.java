/** Counts and prints the answers that are not the ones that are due. */
final class Due {
    private static int asked = 0;
    private static int wrong = 0;

    private static String sentence = "";
    private static int askedBefore = 0;
    private static int wrongBefore = 0;

    private Due() {
    }

    /** Begins the test of one sentence of the document; its outcome is printed by itself. */
    static void sentence(String text) {
        endSentence();
        sentence = text;
        askedBefore = asked;
        wrongBefore = wrong;
    }

    private static void endSentence() {
        if (sentence.isEmpty()) {
            return;
        }
        // A test that asks nothing would hold whatever the program does.
        if (asked == askedBefore) {
            wrong++;
        }
        System.out.println((wrong == wrongBefore ? "holds   " : "BROKEN  ") + sentence
                + " (" + (asked - askedBefore) + " answers)");
        sentence = "";
    }

    static void is(String call, long got, long want) {
        asked++;
        if (got != want) {
            wrong++;
            System.out.println(call + " answered " + got + ", due is " + want);
        }
    }

    static void is(String call, boolean got, boolean want) {
        is(call, got ? 1L : 0L, want ? 1L : 0L);
    }

    static void end() {
        endSentence();
        System.out.println(asked + " answers, " + wrong + " of them not as due");
        if (wrong != 0 || asked == 0) {
            System.exit(1);
        }
    }
}
