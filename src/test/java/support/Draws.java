/** The DRAWS of a NIGHT, drawn once more. */
final class Draws {
    private static long x;

    private Draws() {
    }

    static void seed(int seed) {
        x = seed;
    }

    static int draw(int rest) {
        x = (x * 1103515245 + 12345) % 2147483648L;
        return (int) (x / 65536 % rest);
    }

    /** A seed behind which the DRAWS are by 1000 these, or below what is told as a number below 0. */
    static int seedFor(int... due) {
        return seedFor(1000, due);
    }

    /** The same, but the last DRAW is by another rest. */
    static int seedFor(int lastRest, int[] due) {
        for (int seed = 0; seed < 400000000; seed++) {
            seed(seed);
            boolean all = true;
            for (int i = 0; i < due.length && all; i++) {
                int drawn = draw(i == due.length - 1 ? lastRest : 1000);
                all = due[i] < 0 ? drawn < -due[i] : drawn == due[i];
            }
            if (all) {
                return seed;
            }
        }
        Check.due("there is such a seed", false, true);
        return 0;
    }
}
