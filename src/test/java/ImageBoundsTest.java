/** Promises 28 to 30, sentence by sentence: the last that is taken, the first that is refused, what stays. */
public final class ImageBoundsTest {
    private static final int ALL = DarkWood.NONE;
    private static final int MIN = Integer.MIN_VALUE;
    private static final int MAX = Integer.MAX_VALUE;
    private static final int WHOLE = 1000000000;

    private ImageBoundsTest() {
    }

    public static void main(String[] args) {
        counts();
        countsOfTexts();
        numbersOfImages();
        ofNothing();
        ofAllThereIs();
        inPlaceOfAnother();
        postsOfImages();
        textsStay();
        refusedStaysAsItIs();
        Check.finish();
    }

    private static void counts() {
        Check.sentence("What 0: WOODS, 1: LAWS, 2: RULES, 3: ACTS, 4: STEPS, 5: MATCHES, 6: EYES, 7: bytes of the TAPE. NONE for others; 3 to 6"
                + " without a WALK.");
        Dark d = new Dark();
        int[] due = {0, 0, 0, -1, -1, -1, -1, 0};
        counts("a new object", d, due);
        for (int what : new int[] {-1, 8, -2, 9, MIN, MAX}) {
            Check.due("count(" + what + ")", d.count(what), -1);
        }
        Scene.text(d, 0, "wide 2 2;source 5 0 0");
        Scene.text(d, 1, "step 500");
        due[0] = 1;
        due[1] = 1;
        counts("without a WALK", d, due);
        d.walk(0, 0, 0, 0, 0);
        due[3] = 0;
        due[4] = 0;
        due[5] = 9;
        due[6] = 0;
        counts("a WALK", d, due);
        for (int what : new int[] {-1, 8, MIN, MAX}) {
            Check.due("count(" + what + ")", d.count(what), -1);
        }
        d.felt(0);
        d.seen(0);
        d.heard(0, 5);
        due[3] = 3;
        counts("SIGNS are ACTS alone", d, due);
        Scene.acts(d, 4, 40);
        due[3] = 43;
        due[4] = 40;
        due[6] = 30;
        counts("sits", d, due);
        d.strike(0, false);
        due[3] = 44;
        due[4] = 41;
        due[5] = 8;
        due[6] = 0;
        counts("a match", d, due);
        Check.due("refused", d.strike(7, true), -1);
        Check.due("refused", d.act(5), -1);
        counts("what was refused", d, due);
        Scene.acts(d, 4, 156);
        due[3] = 200;
        due[4] = 197;
        due[6] = 30;
        counts("200", d, due);
        Check.due("refused", d.act(4), -1);
        counts("and none more", d, due);
        d.walk(0, 0, 0, 0, 0);
        for (int i = 8; i >= 0; i--) {
            d.strike(0, false);
        }
        due[3] = 9;
        due[4] = 9;
        due[5] = 0;
        due[6] = 0;
        counts("no MATCHES", d, due);
    }

    private static void counts(String when, Dark d, int[] due) {
        for (int what = 0; what < 8; what++) {
            Check.due(when + ": count(" + what + ")", d.count(what), due[what]);
        }
    }

    private static void countsOfTexts() {
        Check.sentence("What 0: WOODS, 1: LAWS, 2: RULES, 3: ACTS, 4: STEPS, 5: MATCHES, 6: EYES, 7: bytes of the TAPE.");
        String[] texts = {"wide 2 2", "see 1", "go"};
        int[] most = {4, 6, 6};
        Dark d = new Dark();
        for (int sort = 0; sort < 3; sort++) {
            for (int i = 0; i < 8; i++) {
                Check.due("so many", d.count(sort), Math.min(most[sort], i));
                Scene.text(d, sort, texts[sort]);
                d.end(0);
                Check.due("a FAULT is none", Scene.text(d, sort, texts[sort] + "#") < 0, true);
                d.end(0);
            }
        }
        Check.due("WOODS", d.count(0), 4);
        Check.due("LAWS", d.count(1), 6);
        Check.due("RULES", d.count(2), 6);
        Dark e = new Dark();
        for (int i = 1; i <= 21; i++) {
            e.feed(0, 0, 0, 0, 0);
            Check.due("bytes", e.count(7), Math.min(400, 20 * i));
        }
        for (int n : new int[] {400, 399, 21, 20, 19, 1, 0}) {
            e.end(n);
            Check.due("bytes", e.count(7), n);
        }
    }

    private static void numbersOfImages() {
        Check.sentence("IMAGES 0 to 3: the WALK, POSTS, as they are; gone back to, they are as they were (texts stay).");
        Check.sentence("An IMAGE is made (also where nothing was told yet): ACTS (0 without a WALK); NONE for another k.");
        Dark d = Scene.at("wide 2 2", "step 500", 0, 0, 1);
        d.act(4);
        for (int k : new int[] {-1, 4, -2, 5, MIN, MAX}) {
            Check.due("image(" + k + ")", d.image(k), -1);
            Check.due("back(" + k + ")", d.back(k), -1);
        }
        for (int k = 0; k < 4; k++) {
            for (int other = k; other < 4; other++) {
                Check.due("back(" + other + ") was never made", d.back(other), -1);
            }
            Check.due("image(" + k + ")", d.image(k), k + 1);
            Check.due("back(" + k + ")", d.back(k), k + 1);
            d.act(4);
        }
        int[] order = {2, 0, 3, 1, 1, 3, 0, 2};
        for (int k : order) {
            Check.due("back(" + k + ")", d.back(k), k + 1);
            Check.due("ACTS", d.count(3), k + 1);
            Check.due("STEPS", d.count(4), k + 1);
            d.act(0);
            d.act(4);
        }
    }

    private static void ofNothing() {
        Check.sentence("An IMAGE is made (also where nothing was told yet): ACTS (0 without a WALK); NONE for another k.");
        Dark d = new Dark();
        for (int k = 0; k < 4; k++) {
            Check.due("back(" + k + ") of nothing made", d.back(k), -1);
        }
        Check.due("image(0)", d.image(0), 0);
        Check.due("back(0)", d.back(0), 0);
        Check.due("no WALK", d.count(3), -1);
        Check.due("text", Scene.text(d, 0, "wide 2 2;path 0 0 1 1;source 5 0 0"), 0);
        Check.due("text", Scene.text(d, 1, "step 500"), 0);
        Check.due("text", Scene.text(d, 2, "go"), 0);
        Check.due("image(1) of texts alone", d.image(1), 0);
        Check.due("walk", d.walk(0, 0, 0, 0, 0), true);
        d.act(0);
        d.post(0, 0, 0);
        for (int k = 0; k < 2; k++) {
            Check.due("image(2)", d.image(2), 1);
            Check.due("back(" + k + ")", d.back(k), 0);
            int[] none = {d.count(3), d.count(4), d.count(5), d.count(6), d.act(0), d.act(4), d.felt(0), d.seen(0), d.heard(0, 5),
                d.strike(0, false), d.odds(0, 0, ALL), d.odds(0, 0, 0), d.all(0), d.all(6), (int) d.row(1, 0, 0), d.soon(1), d.left(1),
                d.fork(0, 0, 1, 1, ALL), d.remember(0, 0, 1), d.tells(), d.aim(0, 0, 1), d.look(0), d.night(0, 0, 0, 0, 0, 1, 1),
                d.nights(0, 0, 0, 0, 0, 1, 1, 2), d.finest(0, 0, 0, 0, 1, 1)};
            for (int i = 0; i < none.length; i++) {
                Check.due("no WALK: " + i, none[i], -1);
            }
            Check.due("no POSTS", d.parish(0, 40), -2);
            Check.due("texts stay", d.count(0) + d.count(1) + d.count(2), 3);
            Check.due("an IMAGE of no WALK", d.image(3), 0);
            Check.due("back to the WALK", d.back(2), 1);
            Check.due("POSTS, too", d.parish(0, 40), 1);
            Check.due("back to none", d.back(3), 0);
            Check.due("walk", d.walk(0, 0, 0, 0, 0), true);
            d.act(0);
            d.post(0, 0, 0);
        }
    }

    private static void ofAllThereIs() {
        Check.sentence("All is as in an IMAGE: ACTS; NONE, and nothing happens, if it was never made, or without it.");
        Dark d = Scene.at("wide 3 2;path 0 0 0 0;ground 1 0 0 0 0;sky 1 1 0 1 0;source 9 2 0;home 2 1;harm 7 0 0 2 1",
                "step 500-eyes;drift 50;feel 700;see 700;hear 700", 0, 0, 1);
        for (int i = 0; i < 9; i++) {
            d.strike(1, true);
        }
        for (int i = 0; i < 20; i++) {
            d.act(i % 3 == 0 ? 2 : 0);
            d.felt(i % 2);
            d.seen(i % 2);
            d.heard(0, 7 + i % 3);
        }
        while (d.count(3) < 200) {
            d.act(0);
        }
        Check.due("image of 200 ACTS", d.image(0), 200);
        long[] before = asked(d);
        Check.due("another WALK", d.walk(0, 0, 2, 1, 3), true);
        d.act(0);
        Check.due("the other one has MATCHES", d.count(5), 9);
        Check.due("back", d.back(0), 200);
        same(asked(d), before);
        Check.due("200 still", d.act(4), -1);
        Check.due("200 still", d.felt(0), -1);
        Check.due("no MATCHES still", d.strike(0, false), -1);
        same(asked(d), before);
    }

    private static long[] asked(Dark d) {
        long[] all = new long[40];
        int at = 0;
        for (int what = 3; what <= 6; what++) {
            all[at++] = d.count(what);
        }
        for (int what = 0; what <= 10; what++) {
            all[at++] = d.all(what);
        }
        for (int x = 0; x < 3; x++) {
            for (int way = 0; way < 4; way++) {
                all[at++] = d.odds(x, 0, way);
            }
        }
        all[at++] = d.left(1000);
        all[at++] = d.left(500);
        all[at++] = d.remember(0, 0, 1);
        all[at++] = d.remember(1, 0, 300);
        all[at++] = d.remember(2, 0, 500);
        all[at++] = d.row(4, 0, 0);
        all[at++] = d.row(4, 0, 1);
        all[at++] = d.tells();
        return all;
    }

    private static void same(long[] got, long[] due) {
        for (int i = 0; i < due.length; i++) {
            Check.due("as it was: " + i, got[i], due[i]);
        }
    }

    private static void inPlaceOfAnother() {
        Check.sentence("An IMAGE is made (also where nothing was told yet): ACTS (0 without a WALK); NONE for another k.");
        Dark d = Scene.at("wide 3 2", "step 1000;drift 0", 0, 0, 1);
        Check.due("image", d.image(1), 0);
        d.act(0);
        Check.due("image in its place", d.image(1), 1);
        d.act(0);
        Check.due("back", d.back(1), 1);
        Check.due("where it was then", d.odds(1, 0, 1), WHOLE);
        // an IMAGE is what was then: what comes behind it doesn't touch it, nor does another one
        Check.due("another", d.image(2), 1);
        d.act(3);
        d.act(0);
        Check.due("back", d.back(2), 1);
        Check.due("back", d.back(1), 1);
        Check.due("where it was then", d.odds(1, 0, 1), WHOLE);
        // less ACTS than there were: what came behind them is gone
        d.act(2);
        d.act(4);
        Check.due("left of one that has no path", d.left(1), 0);
        Check.due("back to one ACT", d.back(1), 1);
        d.act(0);
        Check.due("done again with the new ones alone", d.remember(2, 0, 1000), 0);
    }

    private static void postsOfImages() {
        Check.sentence("IMAGES 0 to 3: the WALK, POSTS, as they are; gone back to, they are as they were (texts stay).");
        Dark d = new Dark();
        Check.due("text", Scene.text(d, 0, "wide 8 2;path 0 0 7 0"), 0);
        for (int k = 0; k < 8; k++) {
            d.post(k, k, 0);
        }
        Check.due("all eight", d.parish(0, 0), 255);
        Check.due("image", d.image(3), 0);
        d.post(7, 7, 1);
        d.post(0, 3, 0);
        Check.due("not now", d.parish(0, 0), -2);
        Check.due("back", d.back(3), 0);
        Check.due("all eight", d.parish(0, 0), 255);
        // POSTS come back, and a WALK that was begun since goes
        Check.due("text", Scene.text(d, 1, "step 1"), 0);
        Check.due("walk", d.walk(0, 0, 0, 0, 0), true);
        d.post(7, 7, 1);
        Check.due("back", d.back(3), 0);
        Check.due("no WALK", d.count(3), -1);
        Check.due("all eight", d.parish(0, 0), 255);
        // a POST that an IMAGE didn't have is none again
        Dark e = new Dark();
        Check.due("text", Scene.text(e, 0, "wide 2 2;path 0 0 0 0"), 0);
        e.image(0);
        e.post(0, 0, 0);
        Check.due("one", e.parish(0, 0), 1);
        e.back(0);
        Check.due("none", e.parish(0, 40), -2);
    }

    private static void textsStay() {
        Check.sentence("gone back to, they are as they were (texts stay).");
        Dark d = Scene.at("wide 3 2;home 2 0", "step 1000;drift 0", 0, 0, 1);
        d.image(0);
        Check.due("text", Scene.text(d, 0, "wide 4 2;wall 1 0 1 1"), 1);
        Check.due("text", Scene.text(d, 1, "step 0;drift 0"), 1);
        Check.due("text", Scene.text(d, 2, "go"), 0);
        Scene.feed(d, "sit");
        Check.due("a WALK in the new WOOD", d.walk(1, 1, 0, 1, 2), true);
        d.act(0);
        d.image(1);
        Check.due("back", d.back(0), 0);
        Check.due("texts stay", d.count(0) * 100 + d.count(1) * 10 + d.count(2), 221);
        Check.due("the TAPE stays", d.count(7), 3);
        Check.due("and is a RULE", d.text(2), 1);
        d.act(0);
        Check.due("by the old LAW in the old WOOD", d.odds(1, 0, 1), WHOLE);
        Check.due("a NIGHT in the old WOOD by the new RULE", d.night(0, 0, 0, 1, 5, 9, 1), 2);
        Check.due("no CELL of the old WOOD", d.odds(3, 0, ALL), -1);
        Check.due("back to the new one", d.back(1), 1);
        d.act(0);
        Check.due("by the new LAW", d.odds(0, 1, 2), WHOLE);
        Check.due("a wall of the new WOOD", d.night(0, 1, 0, 1, 5, 9, 1), -1);
        Check.due("a CELL of the new WOOD", d.odds(3, 0, ALL), 0);
        // EYES and what the LAW tells of them come back, too
        Dark e = Scene.at("wide 4 2", "step 1000 if eyes=3;step 0;drift 0", 0, 0, 1);
        Scene.acts(e, 4, 3);
        e.image(0);
        Scene.acts(e, 4, 5);
        e.act(0);
        Check.due("not with EYES 8", e.odds(0, 0, 1), WHOLE);
        e.back(0);
        e.act(0);
        Check.due("with EYES 3", e.odds(1, 0, 1), WHOLE);
    }

    private static void refusedStaysAsItIs() {
        Check.sentence("All is as in an IMAGE: ACTS; NONE, and nothing happens, if it was never made, or without it.");
        Dark d = Scene.at("wide 3 2;path 0 0 0 0", "step 500;drift 0", 0, 0, 1);
        d.post(2, 0, 0);
        d.image(1);
        d.act(0);
        d.felt(0);
        long[] before = asked(d);
        for (int k : new int[] {0, 2, 3, -1, 4, MIN, MAX}) {
            Check.due("back(" + k + ")", d.back(k), -1);
        }
        for (int k : new int[] {-1, 4, MIN, MAX}) {
            Check.due("image(" + k + ")", d.image(k), -1);
        }
        same(asked(d), before);
        Check.due("POSTS", d.parish(0, 0), 4);
        Check.due("the one that was made", d.back(1), 0);
    }
}
