/** Compares answers with those that are due, and ends the test with exit code 1 if one was wrong. */
final class Due {
    private static int wrong = 0;
    private static String sentence = "";

    private Due() {
    }

    /** Runs the test of one sentence of the document; what goes wrong in it is told with the sentence. */
    static void holds(String wording, Runnable test) {
        sentence = wording;
        test.run();
        sentence = "";
    }

    static void is(String call, long got, long want) {
        if (got != want) {
            wrong++;
            String broken = sentence.isEmpty() ? "" : "  [" + sentence + "]";
            System.out.println(call + " answered " + got + ", due is " + want + broken);
        }
    }

    static void yes(String call, boolean got) {
        is(call, got ? 1 : 0, 1);
    }

    static void no(String call, boolean got) {
        is(call, got ? 1 : 0, 0);
    }

    static void none(String call, long got) {
        is(call, got, -1);
    }

    static void end() {
        if (wrong != 0) {
            System.out.println(wrong + " answers are not as due");
            System.exit(1);
        }
    }
}
