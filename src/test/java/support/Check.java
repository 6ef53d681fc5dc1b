/** What every test shares: feeding texts, comparing answers, and the exit code. */
final class Check {
    private static int wrong;
    private static int calls;

    private Check() {
    }

    static void due(String call, long got, long want) {
        calls++;
        if (got != want) {
            wrong++;
            if (wrong <= 40) {
                System.out.println(call + ": " + got + ", due " + want);
            }
        }
    }

    static void due(String call, boolean got, boolean want) {
        due(call, got ? 1 : 0, want ? 1 : 0);
    }

    /** Feeds a text byte by byte (characters are bytes) onto an empty TAPE; the bytes behind it are junk that end cuts off. */
    static void feed(DarkWood of, String text) {
        for (int at = 0; at < text.length(); at += 20) {
            int[] five = new int[5];
            for (int i = 0; i < 20; i++) {
                int one = at + i < text.length() ? text.charAt(at + i) : '#';
                five[i / 4] = five[i / 4] << 8 | one & 255;
            }
            of.feed(five[0], five[1], five[2], five[3], five[4]);
        }
        of.end(text.length());
    }

    static int text(DarkWood of, int sort, String text) {
        feed(of, text);
        return of.text(sort);
    }

    /** What text answers for a FAULT of a kind at a place. */
    static int fault(int place, int kind) {
        return -2 - (1 + 8 * place + kind);
    }

    static void finish() {
        System.out.println(wrong == 0 ? calls + " answers are as due" : wrong + " answers are not as due");
        if (wrong != 0) {
            System.exit(1);
        }
    }
}
