/** Telling texts and beginning WALKS, for every test. */
final class Scene {
    private Scene() {
    }

    /** Feeds a text byte by byte (characters are bytes) onto an empty TAPE; the bytes behind it are junk that end cuts off. */
    static void feed(Dark of, String text) {
        for (int at = 0; at < text.length(); at += 20) {
            int[] five = new int[5];
            for (int i = 0; i < 20; i++) {
                int one = at + i < text.length() ? text.charAt(at + i) : '#';
                five[i / 4] = five[i / 4] << 8 | one & 255;
            }
            of.feed(five[0], five[1], five[2], five[3], five[4]);
        }
        of.end(text.length());
    }

    static int text(Dark of, int sort, String text) {
        feed(of, text);
        return of.text(sort);
    }

    /** What text answers for a FAULT of a kind at a place. */
    static int fault(int place, int kind) {
        return -2 - (1 + 8 * place + kind);
    }

    /** A new object with texts that have no FAULT: a WOOD, a LAW, and RULES. */
    static Dark told(String wood, String law, String... rules) {
        Dark d = new Dark();
        Check.due("text of a WOOD: " + wood, text(d, 0, wood), 0);
        Check.due("text of a LAW: " + law, text(d, 1, law), 0);
        for (int i = 0; i < rules.length; i++) {
            Check.due("text of a RULE: " + rules[i], text(d, 2, rules[i]), i);
        }
        return d;
    }

    /** The same with a WALK. */
    static Dark at(String wood, String law, int x, int y, int way) {
        Dark d = told(wood, law);
        Check.due("walk", d.walk(0, 0, x, y, way), true);
        return d;
    }

    static void acts(Dark of, int act, int times) {
        for (int i = 0; i < times; i++) {
            of.act(act);
        }
    }

    /** The same text so many times, with semicolons between. */
    static String many(String one, int times) {
        return (one + ";").repeat(times - 1) + one;
    }

    /** A SUM of so many VALUES. */
    static String sum(int values) {
        return "1" + "+1".repeat(values - 1);
    }
}
