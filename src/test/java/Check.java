/** Counts and prints the answers that are not the ones that are due. */
final class Check {
    private static int wrong = 0;
    private static int sentences = 0;
    private static int answers = 0;
    private static String sentence = "";

    private Check() {
    }

    /** The document's words that the answers after this belong to. */
    static void sentence(String words) {
        endSentence();
        sentence = words;
        sentences++;
        answers = 0;
    }

    private static void endSentence() {
        if (sentences > 0 && answers == 0) {
            wrong++;
            System.out.println("\"" + sentence + "\": nothing was asked");
        }
    }

    static void due(String call, long got, long want) {
        answers++;
        if (got != want) {
            wrong++;
            System.out.println((sentence.isEmpty() ? "" : "\"" + sentence + "\": ") + call + " answered " + got + ", due is " + want);
        }
    }

    static void due(String call, boolean got, boolean want) {
        due(call, got ? 1L : 0L, want ? 1L : 0L);
    }

    static void end() {
        endSentence();
        String tested = sentences == 0 ? "" : " for " + sentences + " sentences";
        System.out.println(wrong == 0 ? "all answers are as due" + tested : wrong + " answers are not as due");
        if (wrong != 0) {
            System.exit(1);
        }
    }
}
