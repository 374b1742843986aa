/** Compares answers with the ones that are due, and ends the test with exit code 1 if one was wrong. */
final class Due {
    private static int wrong = 0;
    private static int looked = 0;
    private static String sentence = "";
    private static int lookedBefore = -1;

    private Due() {
    }

    /** Names the sentence of the document that the answers looked at from here on belong to. */
    static void says(String words) {
        endSentence();
        sentence = words;
        lookedBefore = looked;
    }

    static void is(String call, long got, long want) {
        looked++;
        if (got != want) {
            report(call + " answered " + got + ", due is " + want);
        }
    }

    static void same(String what, String got, String want) {
        looked++;
        if (!got.equals(want)) {
            report(what + ":\n  is     " + got + "\n  due is " + want);
        }
    }

    static int wrongSoFar() {
        return wrong;
    }

    static void end() {
        endSentence();
        System.out.println(looked + " answers looked at, " + wrong + " not as due");
        // No answer looked at would be a broken test, not a good program.
        if (wrong != 0 || looked == 0) {
            System.exit(1);
        }
    }

    private static void endSentence() {
        if (looked == lookedBefore) {
            report("no answer looked at");
        }
    }

    private static void report(String fault) {
        wrong++;
        System.out.println((sentence.isEmpty() ? "" : "[" + sentence + "] ") + fault);
    }
}
