/** Counts answers that are not as due; shared by the project's tests. */
final class Due {
    private static int wrong = 0;
    private static int sentences = 0;
    private static String at = "";

    private Due() {
    }

    static void is(String what, long got, long want) {
        if (got != want) {
            wrong++;
            System.out.println(at + what + " answered " + got + ", due is " + want);
        }
    }

    static void holds(String what, boolean truth) {
        if (!truth) {
            wrong++;
            System.out.println(at + what);
        }
    }

    /** A test of its own for the words of the document that are given. */
    static void sentence(String words, Runnable test) {
        sentences++;
        at = "\"" + words + "\": ";
        try {
            test.run();
        } catch (RuntimeException thrown) {
            // The other sentences are still to be tested.
            holds("threw " + thrown, false);
        }
        at = "";
    }

    static boolean anyWrong() {
        return wrong > 0;
    }

    static void end(String test) {
        String tests = sentences == 0 ? "" : " (" + sentences + " sentences)";
        String result = wrong == 0 ? "all answers are as due" : wrong + " answers are not as due";
        System.out.println(test + ": " + result + tests);
        if (wrong != 0) {
            System.exit(1);
        }
    }
}
