/** Promises 28 to 30: counts, IMAGES and going back. */
public final class ImageTest {
    private static final int ALL = DarkWood.NONE;

    private ImageTest() {
    }

    public static void main(String[] args) {
        counts();
        nothingYet();
        walks();
        posts();
        texts();
        fourOfThem();
        lawsAndWays();
        Check.finish();
    }

    private static void counts() {
        Dark d = new Dark();
        int[] before = {0, 0, 0, -1, -1, -1, -1, 0};
        for (int what = 0; what < 8; what++) {
            Check.due("count(" + what + ")", d.count(what), before[what]);
        }
        Scene.text(d, 0, "wide 2 2");
        Scene.text(d, 0, "wide 2 3");
        Scene.text(d, 1, "see 1");
        for (int i = 0; i < 3; i++) {
            Scene.text(d, 2, "go");
        }
        d.walk(0, 0, 0, 0, 0);
        d.act(4);
        d.act(4);
        d.strike(0, false);
        d.act(4);
        d.felt(0);
        d.feed(0, 0, 0, 0, 0);
        d.end(13);
        int[] behind = {2, 1, 3, 5, 4, 8, 1, 13};
        for (int what = 0; what < 8; what++) {
            Check.due("count(" + what + ")", d.count(what), behind[what]);
        }
        for (int what : new int[] {-1, 8, Integer.MAX_VALUE, Integer.MIN_VALUE}) {
            Check.due("count of others", d.count(what), -1);
        }
    }

    private static void nothingYet() {
        Dark d = new Dark();
        Check.due("back to none", d.back(0), -1);
        Check.due("image(4)", d.image(4), -1);
        Check.due("image(-1)", d.image(-1), -1);
        Check.due("back(4)", d.back(4), -1);
        Check.due("back(-1)", d.back(-1), -1);
        Check.due("image of nothing", d.image(2), 0);
        Scene.text(d, 0, "wide 2 2");
        Scene.text(d, 1, "see 1");
        d.walk(0, 0, 1, 1, 0);
        d.act(0);
        Check.due("back to another", d.back(1), -1);
        Check.due("nothing happened", d.count(3), 1);
        Check.due("back to no WALK", d.back(2), 0);
        Check.due("no WALK", d.count(3), -1);
        Check.due("no WALK", d.act(0), -1);
        Check.due("no WALK", d.felt(0), -1);
        Check.due("no WALK", d.odds(0, 0, ALL), -1);
        Check.due("no WALK", d.all(6), -1);
        Check.due("no WALK", d.remember(0, 0, 1), -1);
        Check.due("no WALK", d.finest(0, 0, 0, 0, 1, 1), -1);
        Check.due("no WALK, an image", d.image(3), 0);
        Check.due("texts stay", d.count(0), 1);
        Check.due("texts stay", d.count(1), 1);
        Check.due("walk", d.walk(0, 0, 1, 1, 0), true);
        Check.due("and back", d.back(3), 0);
        Check.due("no WALK", d.count(3), -1);
    }

    private static void walks() {
        Dark d = new Dark();
        Scene.text(d, 0, "wide 3 2;path 0 0 0 1;home 2 0");
        Scene.text(d, 0, "wide 4 4;home 3 3;source 5 0 0");
        Scene.text(d, 1, "step 500;drift 0");
        Scene.text(d, 1, "step 250;drift 0");
        Scene.text(d, 2, "go");
        d.walk(0, 0, 0, 0, 1);
        d.act(0);
        d.strike(0, true);
        d.act(0);
        d.act(4);
        Check.due("image", d.image(0), 4);
        long[] due = asked(d);
        d.act(0);
        d.act(1);
        Check.due("image of more", d.image(1), 6);
        Check.due("back", d.back(0), 4);
        same("gone back", asked(d), due);
        d.walk(1, 1, 2, 2, 3);
        d.act(0);
        d.felt(0);
        Check.due("another WOOD", d.heard(0, 0), 3);
        Check.due("another LAW", d.odds(1, 2, ALL), 13157894);
        Check.due("image", d.image(2), 3);
        Check.due("back", d.back(0), 4);
        same("gone back to the first WOOD", asked(d), due);
        Check.due("no SOURCE here", d.heard(0, 0), -1);
        d.act(0);
        Check.due("by the first LAW", d.odds(2, 0, ALL), 250000000);
        Check.due("the IMAGE stays", d.back(0), 4);
        same("gone back again", asked(d), due);
        Check.due("back to more", d.back(1), 6);
        Check.due("STEPS", d.count(4), 6);
        Check.due("back to the other WOOD", d.back(2), 3);
        Check.due("columns are its own", d.odds(3, 3, ALL), 0);
        d.act(0);
        Check.due("its LAW", d.count(3), 4);
        Check.due("its LAW, 250 of 1000, twice", d.odds(0, 2, ALL) > 0, true);
        Check.due("back to what came ahead of it", d.back(0), 4);
        same("gone back at last", asked(d), due);
    }

    /** What is asked of a WALK, so as to see all of it. */
    private static long[] asked(Dark d) {
        long[] all = new long[60];
        int at = 0;
        for (int what = 3; what < 7; what++) {
            all[at++] = d.count(what);
        }
        for (int what = 0; what <= 10; what++) {
            all[at++] = d.all(what);
        }
        for (int x = 0; x < 4; x++) {
            for (int way = 0; way < 4; way++) {
                all[at++] = d.odds(x, 0, way);
            }
        }
        all[at++] = d.left(1000);
        all[at++] = d.left(501);
        all[at++] = d.remember(0, 0, 500);
        all[at++] = d.remember(0, 0, 251);
        all[at++] = d.remember(1, 0, 251);
        all[at++] = d.row(2, 0, 0);
        all[at++] = d.tells();
        all[at++] = d.look(3);
        all[at++] = d.night(0, 0, 0, 1, 5, 9, 1);
        return all;
    }

    private static void same(String when, long[] got, long[] due) {
        for (int i = 0; i < due.length; i++) {
            Check.due(when + ": " + i, got[i], due[i]);
        }
    }

    private static void posts() {
        Dark d = new Dark();
        Scene.text(d, 0, "wide 3 2;path 0 0 2 0");
        d.image(0);
        d.post(3, 1, 0);
        d.image(1);
        d.post(3, 0, 0);
        d.post(1, 1, 0);
        Check.due("now", d.parish(0, 1), 2);
        d.back(1);
        Check.due("as it was", d.parish(0, 1), 8);
        d.post(2, 1, 0);
        Check.due("now", d.parish(0, 1), 4);
        d.back(1);
        Check.due("the IMAGE stays", d.parish(0, 1), 8);
        d.back(0);
        Check.due("no POSTS", d.parish(0, 1), -2);
        Scene.text(d, 1, "see 1");
        d.post(0, 1, 0);
        d.walk(0, 0, 0, 0, 0);
        Check.due("POSTS stay with another WALK", d.parish(0, 1), 1);
    }

    private static void texts() {
        Dark d = new Dark();
        Scene.text(d, 0, "wide 3 2");
        d.feed(1, 2, 3, 4, 5);
        d.image(0);
        d.end(0);
        Scene.text(d, 0, "wide 5 5");
        Scene.text(d, 1, "see 1");
        Scene.text(d, 2, "sit");
        d.feed(1, 2, 3, 4, 5);
        d.end(7);
        Check.due("back", d.back(0), 0);
        Check.due("WOODS stay", d.count(0), 2);
        Check.due("LAWS stay", d.count(1), 1);
        Check.due("RULES stay", d.count(2), 1);
        Check.due("the TAPE stays", d.count(7), 7);
        Check.due("columns", d.wood(1, 0), 5);
    }

    /** What is asked of a WALK behind going back: its LAW, where it began, when it left the path. */
    private static void lawsAndWays() {
        Dark d = new Dark();
        Scene.text(d, 0, "wide 9 2;path 0 0 4 0");
        Scene.text(d, 1, "step 1000");
        Scene.text(d, 1, "step 0;drift 0");
        d.walk(0, 0, 3, 0, 1);
        d.act(0);
        d.act(0);
        d.act(0);
        Check.due("left", d.left(1), 1);
        d.image(0);
        d.walk(0, 1, 5, 1, 2);
        d.act(4);
        d.image(1);
        Check.due("left", d.left(1), 0);
        Check.due("back", d.back(0), 3);
        Check.due("left", d.left(1), 1);
        Check.due("it began at 3, 0, looking right", d.remember(6, 0, 1000), 0);
        d.act(0);
        Check.due("by the first LAW", d.odds(7, 0, 1), 1000000000);
        Check.due("back", d.back(1), 1);
        Check.due("left", d.left(1), 0);
        Check.due("it began at 5, 1", d.remember(5, 1, 1000), 0);
        d.act(0);
        d.act(1);
        d.act(0);
        Check.due("by the second LAW", d.odds(5, 1, 1), 1000000000);
    }

    private static void fourOfThem() {
        Dark d = new Dark();
        Scene.text(d, 0, "wide 3 2");
        Scene.text(d, 1, "see 1");
        d.walk(0, 0, 0, 0, 0);
        for (int k = 0; k < 4; k++) {
            Check.due("image(" + k + ")", d.image(k), k);
            d.act(4);
        }
        for (int k = 3; k >= 0; k--) {
            Check.due("back(" + k + ")", d.back(k), k);
            Check.due("STEPS", d.count(4), k);
        }
        d.back(2);
        Check.due("in place of another", d.image(0), 2);
        d.act(4);
        Check.due("back(0)", d.back(0), 2);
    }
}
