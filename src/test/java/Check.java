/** Counts and prints answers that are not the ones due. */
final class Check {
    private static int wrong = 0;
    private static int asked = 0;

    private Check() {
    }

    static void due(String call, long got, long want) {
        asked++;
        if (got != want) {
            wrong++;
            System.out.println(call + " answered " + got + ", due is " + want);
        }
    }

    /** A sentence of the document with the test that is its own. */
    static void sentence(String words, Runnable test) {
        int askedBefore = asked;
        int wrongBefore = wrong;
        try {
            test.run();
        } catch (RuntimeException thrown) {
            // Caught so that the other sentences are still looked at.
            wrong++;
            System.out.println("a call threw " + thrown);
        }
        if (asked == askedBefore) {
            wrong++;
            System.out.println("no answer was looked at");
        }
        if (wrong != wrongBefore) {
            System.out.println("BROKEN: " + words);
        }
    }

    /** The end of every test's main method. */
    static void end() {
        System.out.println(asked + " answers looked at, " + wrong + " not as due");
        if (wrong != 0 || asked == 0) {
            System.exit(1);
        }
    }
}
