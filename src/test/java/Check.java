/** Counts the answers that are not the ones that are due, and ends a test by that. */
final class Check {
    private static int asked = 0;
    private static int wrong = 0;
    private static String sentence = "";

    private Check() {
    }

    /** The sentence of the document by which the answers that are asked next are due. */
    static void by(String words) {
        sentence = words;
    }

    static void due(String what, long got, long want) {
        asked++;
        if (got != want) {
            tellWrong(what + " answered " + got + ", due is " + want);
        }
    }

    static void holds(String what, boolean held) {
        asked++;
        if (!held) {
            tellWrong(what + " does not hold");
        }
    }

    static void same(String what, String got, String want) {
        asked++;
        if (!got.equals(want)) {
            tellWrong(what + ": seen is\n  " + got + "\nwhere this is due:\n  " + want);
        }
    }

    private static void tellWrong(String text) {
        wrong++;
        System.out.println(text + (sentence.isEmpty() ? "" : "   (" + sentence + ")"));
    }

    static void end() {
        System.out.println(asked + " answers, " + wrong + " of them not as due");
        if (wrong != 0 || asked == 0) {
            System.exit(1);
        }
    }
}
