/** Counts the answers that are not the ones due, and ends the test with exit code 1 if there was one. */
final class Checks {
    private static int asked = 0;
    private static int wrong = 0;
    private static String about = "";

    private Checks() {
    }

    /**
     * A test of one sentence of the document. What goes wrong is told with the sentence, a call that
     * throws doesn't hide the sentences behind it, and a sentence without a question is a fault.
     */
    static void sentence(String text, Runnable test) {
        int before = asked;
        about = "[" + text + "] ";
        try {
            test.run();
        } catch (RuntimeException thrown) {
            wrong++;
            System.out.println(about + "threw " + thrown);
        }
        if (asked == before) {
            wrong++;
            System.out.println(about + "asked nothing");
        }
        about = "";
    }

    static void due(String call, long got, long want) {
        asked++;
        if (got != want) {
            wrong++;
            System.out.println(about + call + " answered " + got + ", due is " + want);
        }
    }

    static void due(String call, boolean got, boolean want) {
        due(call, got ? 1 : 0, want ? 1 : 0);
    }

    static void finish() {
        System.out.println((asked - wrong) + " answers as due, " + wrong + " not as due");
        if (wrong != 0 || asked == 0) {
            System.exit(1);
        }
    }
}
