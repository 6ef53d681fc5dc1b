/** No call throws or changes anything by arguments that are far off, in any of some states. */
public final class EdgeTest {
    private static final int[] FAR = {Integer.MIN_VALUE, Integer.MIN_VALUE + 1, -1000000, -2, -1, 0, 1, 12, 13, 99, 400, 1000, 1 << 16,
        1 << 30, Integer.MAX_VALUE - 1, Integer.MAX_VALUE};

    private EdgeTest() {
    }

    public static void main(String[] args) {
        for (int state = 0; state < 6; state++) {
            for (int a = 0; a < FAR.length; a++) {
                for (int b = 0; b < FAR.length; b += 3) {
                    Dark d = inState(state);
                    for (int turn = 0; turn < 9; turn++) {
                        all(d, FAR[a], FAR[b], turn);
                    }
                    Check.due("WEIGHTS together", d.all(6) <= 1000000000, true);
                }
            }
        }
        tapes();
        dearest();
        Check.finish();
    }

    private static Dark inState(int state) {
        Dark d = new Dark();
        if (state > 0) {
            Scene.text(d, 0, "wide 3 2;home 2 1;path 0 0 2 0;harm 5 0 0 2 1;source 3 1 1");
        }
        if (state > 1) {
            Scene.text(d, 1, "step 700-harm;feel 700");
        }
        if (state > 2) {
            Scene.text(d, 2, "go if on>300;strike if matches>3;left");
        }
        if (state > 3) {
            d.walk(0, 0, 0, 0, 1);
            d.act(0);
        }
        if (state > 4) {
            d.post(0, 1, 1);
            d.image(0);
            for (int i = 0; i < 205; i++) {
                d.act(i % 5);
            }
        }
        return d;
    }

    /** Each call with one number far off at one place, and another one at the others. */
    private static void all(Dark d, int far, int other, int turn) {
        int[] a = new int[9];
        for (int i = 0; i < 9; i++) {
            a[i] = i == turn ? far : other;
        }
        d.feed(a[0], a[1], a[2], a[3], a[4]);
        d.text(a[0]);
        d.cell(a[0], a[1], a[2], a[3]);
        d.wood(a[0], a[1]);
        d.odds(a[0], a[1], a[2]);
        d.all(a[0]);
        d.row(a[0], a[1], a[2]);
        d.soon(a[0]);
        d.left(a[0]);
        d.fork(a[0], a[1], a[2], a[3], a[4]);
        d.remember(a[0], a[1], a[2]);
        d.tells();
        d.aim(a[0], a[1], a[2]);
        d.look(a[0]);
        d.parish(a[0], a[1]);
        d.night(a[0], a[1], a[2], a[3], a[4], a[5], a[6]);
        d.nights(a[0], a[1], a[2], a[3], a[4], a[5], a[6], a[7]);
        d.finest(a[0], a[1], a[2], a[3], a[4], a[5]);
        d.count(a[0]);
        d.post(a[0], a[1], a[2]);
        d.image(a[0]);
        d.back(a[0]);
        d.act(a[0]);
        d.felt(a[0]);
        d.seen(a[0]);
        d.heard(a[0], a[1]);
        d.strike(a[0], turn % 2 == 0);
        d.walk(a[0], a[1], a[2], a[3], a[4]);
        d.end(a[0]);
    }

    /** Every byte there is, at every place of some texts, for every sort. */
    private static void tapes() {
        String[] texts = {"wide 5 4;harm 7 0 0 1 1;source 1 2 3", "step 5*eyes if not[path=1 or 2<=sky];see 7", "go if on>=5 and 1<2;sit"};
        for (int sort = 0; sort < 3; sort++) {
            for (int at = 0; at < texts[sort].length(); at++) {
                Dark d = new Dark();
                for (int one = 0; one < 256; one++) {
                    String text = texts[sort].substring(0, at) + (char) one + texts[sort].substring(at + 1);
                    int answer = Scene.text(d, sort, text);
                    Check.due("a number or a FAULT: " + text, answer >= -2 - 1 - 8 * 400 - 4 && answer != -2, true);
                    if (answer < -2) {
                        int place = (-2 - answer - 1) / 8;
                        Check.due("a place: " + text, place <= text.length(), true);
                    }
                    if (d.count(sort) == (sort == 0 ? 4 : 6) || d.rest() < 30) {
                        d = new Dark();
                    }
                }
            }
        }
        Dark d = new Dark();
        Scene.text(d, 2, "[".repeat(400));
        Scene.text(d, 2, "go if " + "[".repeat(394));
        Scene.text(d, 2, "go if " + "not ".repeat(98));
        Scene.text(d, 1, "step " + "1+".repeat(197));
        Scene.text(d, 1, "step 1 if " + "1<1 or ".repeat(50));
        Scene.text(d, 0, "9".repeat(400));
        Scene.text(d, 0, ";".repeat(400));
        Scene.text(d, 0, "a".repeat(400));
        Scene.text(d, 0, " ".repeat(400));
        Check.due("none stood", d.count(0) + d.count(1) + d.count(2), 0);
    }

    /** The dearest calls end in good time: 512 of them, in a full WOOD. */
    private static void dearest() {
        Dark d = new Dark();
        Scene.text(d, 0, "harm 1 0 0 11 11;path 0 0 11 5;source 30 5 5");
        Scene.text(d, 1, "step 800-eyes;drift 100;feel 300;see 300;hear 300");
        for (int i = 0; i < 6; i++) {
            Scene.text(d, 2, "go if sure<" + (i + 5) + ";left if eyes>3;strike if on<900;go");
        }
        d.walk(0, 0, 11, 11, 0);
        for (int i = 0; i < 200; i++) {
            d.act(i % 3);
        }
        for (int i = 0; i < 40; i++) {
            Check.due("remember", d.remember(0, 0, 1000), -2);
            Check.due("soon", d.soon(5) >= 0, true);
            Check.due("finest", d.finest(11, 11, 0, i, 99, 9) >= 0, true);
        }
    }
}
