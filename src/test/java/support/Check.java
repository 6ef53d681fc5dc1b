/** What every test shares: comparing answers, the sentence of DOC.md that is tested, and the exit code. */
final class Check {
    private static int wrong;
    private static int calls;
    private static String sentence = "";

    private Check() {
    }

    /** From here on what is due is due by this sentence, which stands in DOC.md word by word (QuotesTest looks). */
    static void sentence(String words) {
        sentence = words;
    }

    static void due(String call, long got, long want) {
        calls++;
        if (got != want) {
            wrong++;
            if (wrong <= 40) {
                System.out.println((sentence.isEmpty() ? "" : "\"" + sentence + "\": ") + call + ": " + got + ", due " + want);
            }
        }
    }

    static void due(String call, boolean got, boolean want) {
        due(call, got ? 1 : 0, want ? 1 : 0);
    }

    static void finish() {
        System.out.println(wrong == 0 ? calls + " answers are as due" : wrong + " answers are not as due");
        if (wrong != 0) {
            System.exit(1);
        }
    }
}
