/** Counts the answers that are not the due ones, and tells them. */
final class Due {
    private static final int MOST_TOLD = 20;
    private static int asked = 0;
    private static int wrong = 0;
    private static int told = 0;

    private Due() {
    }

    static void due(String call, long got, long want) {
        asked++;
        if (got != want) {
            tell(call + " answered " + got + ", due is " + want);
        }
    }

    static void due(String call, boolean got, boolean want) {
        due(call, got ? 1 : 0, want ? 1 : 0);
    }

    /**
     * The test of one sentence of the document. It is told apart from the others, and one that
     * throws does not hide those that come after it.
     */
    static void sentence(String words, Runnable test) {
        int askedBefore = asked;
        int wrongBefore = wrong;
        told = 0;
        try {
            test.run();
        } catch (RuntimeException | StackOverflowError thrown) {
            tell("a call has thrown " + thrown);
        }
        if (asked == askedBefore) {
            tell("nothing was looked at");
        }
        System.out.println((wrong == wrongBefore ? "  holds: " : "  BROKEN: ") + words);
    }

    static void finish() {
        System.out.println(asked + " answers looked at, " + wrong + " not as due");
        if (wrong != 0 || asked == 0) {
            System.exit(1);
        }
    }

    private static void tell(String what) {
        wrong++;
        told++;
        if (told <= MOST_TOLD) {
            System.out.println(what);
        }
    }
}
