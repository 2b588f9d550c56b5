/** Counts the answers that are not as due. */
final class Due {
    private static int asked = 0;
    private static int wrong = 0;
    private static int sentences = 0;
    private static int askedBefore = 0;
    private static String words = "";

    private Due() {
    }

    /** What follows is the test of one sentence of the document, told by its words. */
    static void sentence(String newWords) {
        endSentence();
        sentences++;
        askedBefore = asked;
        words = newWords;
    }

    static void due(String call, long got, long want) {
        asked++;
        if (got != want) {
            wrong++;
            System.out.println((words.isEmpty() ? "" : "\"" + words + "\": ") + call + " answered " + got + ", due is " + want);
        }
    }

    static void end(String test) {
        endSentence();
        System.out.println(test + ": " + (sentences > 0 ? sentences + " sentences, " : "") + asked + " answers, " + wrong
                + " of them wrong");
        if (wrong != 0 || asked == 0) {
            System.exit(1);
        }
    }

    private static void endSentence() {
        if (sentences > 0 && asked == askedBefore) {
            wrong++;
            System.out.println("\"" + words + "\": nothing was asked");
        }
    }
}
