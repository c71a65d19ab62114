/** Compares answers with those that are due, and tells of a wrong one which sentence of the document it breaks. */
final class Due {
    private static String sentence = "";
    private static int sentences;
    private static int wrong;

    private Due() {
    }

    /** Promise 0 are the Terms. SentencesTest looks the words up in the document. */
    static void sentence(int promise, String words) {
        sentence = (promise == 0 ? "Terms" : "promise " + promise) + ", \"" + words + "\"";
        sentences++;
    }

    static void due(String call, int got, int want) {
        if (got != want) {
            wrong++;
            System.out.println(sentence + ": " + call + " answered " + got + ", due is " + want);
        }
    }

    static void dueAll(String call, int[] got, int... want) {
        due("how many of " + call, got.length, want.length);
        for (int i = 0; i < Math.min(got.length, want.length); i++) {
            due(call + " [" + i + "]", got[i], want[i]);
        }
    }

    static void finish() {
        System.out.println(wrong == 0 ? sentences + " sentences hold" : wrong + " answers are not as due");
        if (wrong != 0) {
            System.exit(1);
        }
    }
}
