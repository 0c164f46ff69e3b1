/** Counts and prints answers that are not as due, by promise or by sentence; a test ends with end(). */
final class Check {
    private static int wrong = 0;
    private static int asked = 0;
    private static String sentence = "";
    private static int askedAhead = 0;

    private Check() {
    }

    /** What is looked at from here on: words of the document, so that a failure says what is broken. */
    static void sentence(String words) {
        endSentence();
        sentence = words;
        askedAhead = asked;
    }

    private static void endSentence() {
        if (!sentence.isEmpty() && asked == askedAhead) {
            wrong++;
            System.out.println("nothing is looked at of \"" + sentence + "\"");
        }
    }

    static void due(int promise, String what, long got, long want) {
        compare("promise " + promise, what, got, want);
    }

    static void due(String what, long got, long want) {
        compare("\"" + sentence + "\"", what, got, want);
    }

    private static void compare(String of, String what, long got, long want) {
        asked++;
        if (got != want) {
            wrong++;
            System.out.println(of + ": " + what + " answered " + got + ", due is " + want);
        }
    }

    static void holds(String what, boolean holds) {
        asked++;
        if (!holds) {
            wrong++;
            System.out.println((sentence.isEmpty() ? "" : "\"" + sentence + "\": ") + "it does not hold: " + what);
        }
    }

    static void end() {
        endSentence();
        System.out.println(wrong == 0 ? asked + " answers are as due" : wrong + " answers are not as due");
        if (wrong != 0) {
            System.exit(1);
        }
    }
}
