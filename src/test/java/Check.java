/** Compares answers with those that are due, and ends a test's run by what it found. */
final class Check {
    private static int looked;
    private static int wrong;
    private static String sentence = "";
    private static int sentences;
    private static int lookedAhead;

    private Check() {
    }

    /** What follows, up to the next sentence, is looked at for these words of that part of the document. */
    static void sentence(String part, String words) {
        endSentence();
        sentences++;
        sentence = part + ", \"" + words + "\": ";
    }

    private static void endSentence() {
        if (sentences > 0 && looked == lookedAhead) {
            holds("something is looked at", false);
        }
        lookedAhead = looked;
    }

    static void due(String call, long got, long want) {
        looked++;
        if (got != want) {
            wrong++;
            System.out.println(sentence + call + " answered " + got + ", due is " + want);
        }
    }

    static void holds(String what, boolean so) {
        due(what, so ? 1 : 0, 1);
    }

    static void end() {
        endSentence();
        System.out.println(sentences + " sentences, " + looked + " looked at, " + wrong + " wrong");
        if (wrong != 0 || looked == 0) {
            System.exit(1);
        }
    }
}
