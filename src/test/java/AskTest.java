/** Promises 15 to 24: what is asked of a WALK, and the POSTS, reckoned by hand. */
public final class AskTest {
    private static final int ALL = DarkWood.NONE;

    private AskTest() {
    }

    public static void main(String[] args) {
        rows();
        harmsOfRows();
        rowsAsTheWalkGoes();
        soon();
        left();
        fork();
        remember();
        rememberMatches();
        rememberRefused();
        rememberSits();
        rememberAll();
        tells();
        aim();
        look();
        post();
        parish();
        withoutAWalk();
        Check.finish();
    }

    private static void row(Dark d, int n, int code, long homes, long harms) {
        Check.due("row(" + n + ", " + code + ", 0)", d.row(n, code, 0), homes);
        Check.due("row(" + n + ", " + code + ", 1)", d.row(n, code, 1), harms);
    }

    private static void rows() {
        Dark d = Scene.at("wide 3 2;home 2 0", "step 500;drift 0", 0, 0, 1);
        row(d, 1, 0, 0, 0);
        row(d, 2, 0, 250000000, 0);
        row(d, 3, 0, 500000000, 0);
        row(d, 4, 0, 687500000, 0);
        // the lowest digit first: left, go, go; go, go, left; right, go, go
        row(d, 3, 1, 0, 0);
        row(d, 3, 16, 250000000, 0);
        row(d, 3, 2, 0, 0);
        // back, back, go, go
        row(d, 4, 15, 250000000, 0);
        // two of six, by halves: all but 7 of 64
        row(d, 6, 0, 890625000, 0);
        Check.due("nothing happened", d.count(3), 0);
        Check.due("nothing happened", d.odds(0, 0, 1), 1000000000);
        // what is at HOME at first counts, and is gone
        Dark e = Scene.at("wide 2 2;home 0 0;harm 1000 0 0 0 0", "step 500;drift 0", 0, 0, 0);
        row(e, 1, 0, 1000000000, 0);
        row(e, 6, 0, 1000000000, 0);
        row(e, 6, 4095, 1000000000, 0);
        Dark f = Scene.at("wide 2 2;home 0 0", "step 500;drift 0", 0, 0, 1);
        f.act(0);
        row(f, 1, 1, 500000000, 0);
        row(f, 2, 3, 750000000, 0);
        row(f, 2, 0, 500000000, 0);
        int[][] wrong = {{0, 0, 0}, {7, 0, 0}, {-1, 0, 0}, {1, 4, 0}, {1, -1, 0}, {2, 16, 0}, {6, 4096, 0}, {1, 0, 2}, {1, 0, -1},
            {Integer.MAX_VALUE, 0, 0}, {3, Integer.MAX_VALUE, 0}, {Integer.MIN_VALUE, 0, 0}, {32, 0, 0}};
        for (int[] one : wrong) {
            Check.due("row without these", d.row(one[0], one[1], one[2]), -1);
        }
        row(d, 6, 4095, 0, 0);
    }

    private static void harmsOfRows() {
        // ahead of each go alone; HOME's harm is none, as what comes there is gone
        Dark d = Scene.at("wide 3 2;home 2 0;harm 100 1 0 1 0;harm 1000 2 0 2 0", "step 500;drift 0", 0, 0, 1);
        row(d, 1, 0, 0, 0);
        row(d, 2, 0, 250000000, 50000000);
        row(d, 3, 0, 500000000, 100000000);
        row(d, 2, 4, 0, 0);
        row(d, 3, 60, 0, 0);
        row(d, 3, 4, 0, 50000000);
        Dark e = Scene.at("wide 3 2;home 2 0;harm 7 0 0 0 0", "step 0;drift 0", 0, 0, 1);
        row(e, 4, 0, 0, 28000000);
        row(e, 4, 4 + 64, 0, 14000000);
    }

    private static void rowsAsTheWalkGoes() {
        // EYES go on in a ROW: at the second go they are 1, or more behind what was done
        Dark d = Scene.at("wide 4 2;home 3 0", "step eyes*100;drift 0", 0, 0, 1);
        row(d, 4, 0, 6000000, 0);
        for (int i = 0; i < 40; i++) {
            d.act(4);
        }
        row(d, 3, 0, 1000000000, 0);
        // drifting home to the left, to the right
        Dark e = Scene.at("wide 3 2;home 1 0", "step 0;drift 300", 0, 0, 2);
        row(e, 1, 0, 300000000, 0);
        Dark f = Scene.at("wide 3 2;home 1 0", "step 0;drift 300", 2, 0, 2);
        row(f, 1, 0, 300000000, 0);
        row(f, 2, 0, 510000000, 0);
    }

    private static void soon() {
        Dark d = Scene.at("wide 3 2;home 2 0", "step 500;drift 0", 0, 0, 0);
        Check.due("soon(3)", d.soon(3), 2);
        Check.due("soon(4)", d.soon(4), 2);
        // nothing comes home: the least HARMS, then the least code
        Check.due("soon(2)", d.soon(2), 0);
        Check.due("soon(1)", d.soon(1), 0);
        Dark e = Scene.at("wide 3 2;home 2 0;harm 1 0 0 0 0", "step 500;drift 0", 0, 0, 0);
        Check.due("soon(1) with harm", e.soon(1), 1);
        Check.due("soon(2) with harm", e.soon(2), 5);
        Check.due("soon(3) with harm", e.soon(3), 2);
        // as much comes home by go, left as by left, go: then the harm ahead of the go is looked at
        Dark f = Scene.at("wide 2 2;home 1 0", "step 1000;drift 0", 0, 0, 1);
        Check.due("surely at once", f.soon(1), 0);
        Check.due("surely at once", f.soon(5), 0);
        Dark g = Scene.at("wide 2 2;home 0 0", "step 1000", 0, 0, 1);
        Check.due("at HOME", g.soon(5), 0);
        Check.due("soon(0)", d.soon(0), -1);
        Check.due("soon(6)", d.soon(6), -1);
        Check.due("soon(-1)", d.soon(-1), -1);
        Check.due("soon(MAX)", d.soon(Integer.MAX_VALUE), -1);
        Check.due("nothing happened", d.count(3), 0);
        // each asked for itself: the WALK looks another way by now
        Dark i = Scene.at("wide 3 2;home 2 0", "step 500;drift 0", 0, 0, 0);
        Check.due("up at first", i.soon(3), 2);
        i.act(3);
        Check.due("down", i.soon(3), 1);
        i.act(1);
        Check.due("right", i.soon(3), 0);
        Check.due("right", i.soon(2), 0);
        i.act(3);
        Check.due("left", i.soon(3), 3);
        // a way around with five ACTS: right, go, left, go, go is code 2 + 0 + 16 = 18
        Dark h = Scene.at("wide 3 3;home 1 0;wall 0 0 0 1", "step 1000", 0, 2, 0);
        Check.due("right, go, left, go, go", h.soon(5), 18);
        Check.due("and so it comes home", h.row(5, 18, 0), 1000000000);
    }

    private static void left() {
        Dark d = Scene.at("wide 4 2;path 0 0 1 0", "step 500;drift 0", 0, 0, 1);
        Check.due("no ACT yet", d.left(1000), -2);
        d.act(0);
        Check.due("on is 1000", d.left(1000), -2);
        d.act(4);
        d.act(0);
        // on is 750 behind ACT 2
        Check.due("left(750)", d.left(750), -2);
        Check.due("left(751)", d.left(751), 2);
        Check.due("left(1000)", d.left(1000), 2);
        d.act(0);
        // on is 500 behind ACT 3
        Check.due("left(501)", d.left(501), 3);
        Check.due("left(500)", d.left(500), -2);
        d.strike(0, false);
        Check.due("a match is an ACT", d.left(500), 4);
        Check.due("left(1)", d.left(1), 4);
        Check.due("the first one", d.left(600), 3);
        Check.due("left(0)", d.left(0), -1);
        Check.due("left(1001)", d.left(1001), -1);
        Check.due("left(-1)", d.left(-1), -1);
        d.walk(0, 0, 0, 0, 1);
        Check.due("another WALK", d.left(1000), -2);
        Dark e = Scene.at("wide 4 2;path 0 0 0 0", "step 1000", 2, 0, 1);
        Check.due("begun beside it, but no ACT", e.left(1000), -2);
        e.act(4);
        Check.due("behind the first ACT", e.left(1), 0);
        // by 1000000, downwards: 999999999 is 999
        Dark f = Scene.at("wide 3 2;path 0 0 2 1;ground 1 0 0 0 0", "step 500;drift 0", 0, 0, 1);
        f.act(0);
        f.act(0);
        f.strike(0, true);
        Check.due("downwards", f.left(1000), 2);
        Check.due("downwards", f.left(999), -2);
    }

    private static void fork() {
        Dark d = Scene.at("wide 3 3", "step 500;drift 100", 1, 1, 0);
        d.act(0);
        Check.due("all", d.fork(0, 0, 2, 2, ALL), 1000000000);
        Check.due("all, beyond the WOOD, too", d.fork(0, 0, 11, 11, ALL), 1000000000);
        Check.due("beyond the WOOD", d.fork(3, 3, 11, 11, ALL), 0);
        Check.due("one CELL", d.fork(1, 1, 1, 1, ALL), 300000000);
        Check.due("a column", d.fork(1, 0, 1, 2, ALL), 800000000);
        Check.due("a row", d.fork(0, 1, 2, 1, ALL), 500000000);
        Check.due("a row, up", d.fork(0, 1, 2, 1, 0), 300000000);
        Check.due("a row, right", d.fork(0, 1, 2, 1, 1), 100000000);
        Check.due("a row, down", d.fork(0, 1, 2, 1, 2), 0);
        Check.due("a row, left", d.fork(0, 1, 2, 1, 3), 100000000);
        int[][] wrong = {{1, 0, 0, 0, 0}, {0, 1, 0, 0, 0}, {-1, 0, 0, 0, 0}, {0, -1, 0, 0, 0}, {0, 0, 12, 0, 0}, {0, 0, 0, 12, 0},
            {12, 0, 12, 0, 0}, {0, 0, 0, 0, 4}, {0, 0, 0, 0, -2}};
        for (int[] one : wrong) {
            Check.due("fork without these", d.fork(one[0], one[1], one[2], one[3], one[4]), -1);
        }
    }

    private static void remember() {
        // ground tells (0, 0), sky (1, 0) from the others, sound (2, 0)
        String wood = "wide 3 2;ground 1 0 0 0 0;sky 1 1 0 1 0;source 2 2 0";
        Dark d = Scene.at(wood, "step 500;drift 0;feel 990;see 1000;hear 1000", 0, 0, 1);
        d.act(0);
        d.act(0);
        // 250 at (0, 0), 500 at (1, 0), 250 at (2, 0)
        Check.due("with none", d.remember(0, 0, 250), 0);
        Check.due("none with which", d.remember(0, 0, 251), -2);
        Check.due("felt", d.felt(1), 3);
        Check.due("with felt", d.remember(0, 0, 251), 1);
        Check.due("with none", d.remember(0, 0, 250), 0);
        Check.due("other CELL, the least set", d.remember(1, 0, 500), 0);
        Check.due("other CELL", d.remember(1, 0, 501), -2);
        Check.due("beyond the odds", d.remember(0, 1, 1), -2);
        Dark e = Scene.at(wood, "step 500;drift 0;feel 500;see 1000;hear 500", 0, 0, 1);
        for (int i = 0; i < 2; i++) {
            e.act(0);
        }
        e.felt(0);
        e.heard(0, 2);
        // felt: 71, 500, 500 of 1 : 2 : 1; heard: 0 is 6 thousandths, 1 is 125, 2 is 500
        Check.due("nothing", e.remember(2, 0, 250), 0);
        Check.due("felt alone is enough", e.remember(2, 0, 300), 1);
        Check.due("heard alone is enough", e.remember(2, 0, 500), 4);
        Check.due("heard 664 of 1000", e.remember(2, 0, 661), 4);
        Check.due("both", e.remember(2, 0, 665), 5);
        Check.due("more than both", e.remember(2, 0, 900), -2);
        int[][] wrong = {{3, 0, 1}, {0, 2, 1}, {-1, 0, 1}, {0, -1, 1}, {0, 0, 0}, {0, 0, 1001}};
        for (int[] one : wrong) {
            Check.due("remember without these", e.remember(one[0], one[1], one[2]), -1);
        }
        Check.due("nothing happened", e.count(3), 4);
        // fewest, then least as a number: seen alone (2) ahead of felt and heard (5)
        Dark f = Scene.at(wood, "step 500;drift 0;feel 600;see 1000;hear 600", 0, 0, 1);
        for (int i = 0; i < 2; i++) {
            f.act(0);
        }
        for (int i = 0; i < 30; i++) {
            f.act(4);
        }
        f.felt(0);
        f.heard(0, 1);
        f.seen(1);
        Check.due("seen alone", f.remember(1, 0, 1000), 2);
        Check.due("none", f.remember(1, 0, 500), 0);
    }

    private static void rememberMatches() {
        // without the match he sits, and EYES go on: then seeing would tell more
        String wood = "wide 2 2;path 0 0 0 0;sky 1 0 0 0 0";
        Dark d = Scene.at(wood, "step 500;drift 0;see 1000", 0, 0, 1);
        for (int i = 0; i < 29; i++) {
            d.act(4);
        }
        d.act(0);
        Check.due("strike", d.strike(0, true), 8);
        Check.due("with none", d.remember(0, 0, 500), 0);
        Check.due("with the match", d.remember(0, 0, 501), 8);
        Check.due("what the match ruled out", d.remember(1, 0, 500), 0);
        Check.due("seen", d.seen(1), 32);
        Check.due("seen without the match: EYES 30", d.remember(0, 0, 1000), 2);
        Check.due("STEPS", d.count(4), 31);
        // by a LAW of EYES the sit tells: 1 more of them than 0 behind the match
        Dark e = Scene.at("wide 4 2", "step 300*eyes;drift 0", 0, 0, 1);
        e.strike(0, false);
        e.act(0);
        Check.due("with the match he stays", e.odds(0, 0, ALL), 1000000000);
        Check.due("with the match", e.remember(0, 0, 701), 8);
        Check.due("with none", e.remember(0, 0, 700), 0);
        Check.due("with none", e.remember(1, 0, 300), 0);
        Check.due("with none", e.remember(1, 0, 301), -2);
    }

    private static void rememberRefused() {
        // the second felt is right of (1, 0) alone, wherever he was told to be ahead of it
        String wood = "wide 2 2;ground 1 0 0 0 0";
        Dark d = Scene.at(wood, "step 500;drift 0;feel 1000", 0, 0, 1);
        d.act(0);
        d.felt(1);
        d.act(0);
        d.felt(0);
        // 1000 at (1, 0); without the first felt: 750, with the second 1000
        Check.due("now", d.odds(1, 0, ALL), 1000000000);
        Check.due("with none", d.remember(1, 0, 750), 0);
        Check.due("with felt", d.remember(1, 0, 751), 1);
        // seen tells nothing that felt didn't
        Dark e = Scene.at("wide 2 2;ground 1 1 0 1 0;path 1 0 1 0;sky 1 1 0 1 0", "step 500;drift 0;feel 1000;see 1000", 0, 0, 1);
        e.act(0);
        for (int i = 0; i < 29; i++) {
            e.act(4);
        }
        Check.due("seen: where the path is", e.seen(1), 31);
        e.act(4);
        Check.due("strike", e.strike(1, true), 8);
        e.act(0);
        Check.due("felt", e.felt(1), 35);
        Check.due("with none", e.remember(1, 0, 750), 0);
        Check.due("with one", e.remember(1, 0, 751), 1);
    }

    private static void rememberSits() {
        // Without the felt ones the second match finds nothing (a thousandth of a thousandth .. of it), and is a sit:
        // EYES are 5 then, but with neither match they are 6, and with all of it 0.
        Dark d = Scene.at("wide 6 2;ground 1 1 0 1 0;ground 2 2 0 2 0;ground 3 3 0 3 0;ground 4 4 0 4 0",
                "step 500 if eyes=5;step 1;drift 0;feel 1000", 0, 0, 1);
        Check.due("strike", d.strike(0, false), 8);
        for (int ground = 1; ground < 4; ground++) {
            d.act(0);
            d.felt(ground);
        }
        d.act(0);
        Check.due("strike", d.strike(4, false), 7);
        d.act(0);
        Check.due("now", d.odds(4, 0, ALL), 999000000);
        Check.due("felt and matches", d.remember(4, 0, 999), 9);
        Check.due("a match that would be refused", d.remember(1, 0, 400), 8);
    }

    /** Each of the four sorts tells what the others don't: nothing less than all of them is enough. */
    private static void rememberAll() {
        Dark d = Scene.at("wide 5 2;ground 1 3 0 4 1;sky 1 0 0 3 1;path 0 0 4 1;source 6 1 0",
                "step 500;drift 0;feel 700;see 600;hear 600", 1, 0, 1);
        for (int i = 0; i < 12; i++) {
            d.act(4);
        }
        d.act(0);
        d.act(0);
        d.felt(0);
        d.heard(0, 6);
        d.act(0);
        d.act(0);
        d.seen(1);
        d.strike(1, true);
        Check.due("now", d.odds(3, 0, ALL) / 1000000, 955);
        Check.due("all of them", d.remember(3, 0, 955), 15);
        Check.due("none is enough", d.remember(3, 0, 956), -2);
        Check.due("none is needed where he began", d.remember(1, 0, 62), 0);
        Check.due("another WALK", d.walk(0, 0, 2, 1, 3), true);
        Check.due("from where it began", d.remember(2, 1, 1000), 0);
        Check.due("from where it began", d.act(0), 1);
        Check.due("from where it began", d.remember(2, 1, 500), 0);
        Check.due("from where it began", d.remember(1, 1, 500), 0);
        Check.due("from where it began", d.remember(1, 1, 501), -2);
    }

    private static void tells() {
        Dark first = Scene.at("wide 2 2;path 0 0 0 0;path 1 1 1 1", "step 500;drift 0", 0, 0, 1);
        Check.due("tells at (0, 0)", first.tells(), 1000000000);
        first.act(0);
        Check.due("with a path and without", first.tells(), 1000000000);
        first.act(2);
        first.act(0);
        // 250 at (0, 0) and (1, 1), with a path; 250 at (1, 0) and (0, 1), without
        Check.due("the most of each", first.tells(), 500000000);
        Dark d = Scene.at("wide 3 3", "step 500;drift 100", 1, 1, 0);
        Check.due("surely", d.tells(), 1000000000);
        d.act(0);
        Check.due("all alike", d.tells(), 500000000);
        Dark e = Scene.at("wide 3 3;path 1 0 1 0;ground 7 0 1 0 1;ground 3 2 1 2 1;path 2 1 2 1", "step 500;drift 100", 1, 1, 0);
        e.act(0);
        Check.due("each its own", e.tells(), 1000000000);
        Dark f = Scene.at("wide 3 3;path 1 0 1 1;ground 7 0 1 0 1;ground 7 2 1 2 1", "step 500;drift 100", 1, 1, 0);
        f.act(0);
        Check.due("the most of each", f.tells(), 600000000);
    }

    private static void aim() {
        Dark d = Scene.at("wide 5 5", "step 500;drift 100", 2, 2, 1);
        d.act(0);
        // columns: 500 at 2 (300 stays, 100 each aside), 500 at 3; rows: 100 at 1, 800 at 2, 100 at 3
        int[][] due = {
            {0, 2, 500, 0}, {0, 2, 501, 1}, {0, 2, 1000, 1}, {0, 3, 500, 1}, {0, 3, 501, 2}, {0, 0, 1000, 0}, {0, 11, 1, 9},
            {0, 11, 1000, 10}, {1, 2, 100, 0}, {1, 2, 101, 1}, {1, 2, 900, 1}, {1, 2, 901, 2}, {1, 11, 1000, 11}, {1, 0, 1000, 0},
            {1, 1, 900, 0}, {1, 1, 901, 1},
        };
        for (int[] one : due) {
            Check.due("aim(" + one[0] + ", " + one[1] + ", " + one[2] + ")", d.aim(one[0], one[1], one[2]), one[3]);
        }
        int[][] wrong = {{2, 0, 1}, {-1, 0, 1}, {0, 12, 1}, {0, -1, 1}, {0, 0, 0}, {0, 0, 1001}};
        for (int[] one : wrong) {
            Check.due("aim without these", d.aim(one[0], one[1], one[2]), -1);
        }
        Dark corner = Scene.at("home 0 0", "step 0", 11, 11, 1);
        Check.due("in the corner", corner.aim(0, 10, 1000), 0);
        Check.due("in the corner", corner.aim(1, 10, 1000), 0);
        Check.due("in the corner", corner.aim(1, 11, 1000), 1);
        Dark e = Scene.at("wide 3 2", "step 500;drift 0", 0, 0, 1);
        Check.due("the twelfth", e.aim(0, 11, 1000), 12);
        Check.due("the twelfth", e.aim(1, 11, 1000), 12);
        // 999999999 together are 999, and never 1000
        Dark f = Scene.at("wide 3 2;ground 1 0 0 0 0", "step 500;drift 0", 0, 0, 1);
        f.act(0);
        f.act(0);
        f.strike(0, false);
        Check.due("none", f.aim(0, 0, 1000), -2);
        Check.due("all there is", f.aim(0, 0, 999), 0);
    }

    private static void look() {
        Dark d = Scene.at("wide 5 5;home 2 2;wall 1 2 1 2", "step 500;drift 100", 2, 3, 0);
        d.act(0);
        // 500 at HOME (2, 2), 300 at (2, 3), 100 at (1, 3) and (3, 3)
        Check.due("look(0)", d.look(0), 500000000);
        Check.due("look(1)", d.look(1), 800000000);
        Check.due("look(2)", d.look(2), 900000000);
        Check.due("look(3)", d.look(3), 900000000);
        Check.due("over a CELL twice", d.look(4), 1000000000);
        Check.due("look(6)", d.look(6), 1000000000);
        Check.due("look(7)", d.look(7), -1);
        Check.due("look(-1)", d.look(-1), -1);
        Dark e = Scene.at("wide 5 2;home 0 0;wall 1 0 1 1", "step 500", 2, 0, 1);
        e.act(0);
        Check.due("behind a wall", e.look(6), 0);
        Dark f = Scene.at("wide 2 2;home 0 0", "step 500;drift 0", 0, 0, 1);
        f.act(0);
        Check.due("HOME counts once", f.look(6), 1000000000);
        Dark up = Scene.at("wide 3 4;home 1 3", "step 500;drift 0", 1, 3, 0);
        for (int i = 0; i < 3; i++) {
            up.act(0);
        }
        // 125 at HOME, 375 above it, then 375 and 125
        up.post(0, 0, 0);
        up.parish(0, 40);
        Check.due("up, 0 steps", up.look(0), 125000000);
        Check.due("up, 1 step", up.look(1), 500000000);
        Check.due("up, 2 steps", up.look(2), 875000000);
        Check.due("up, 3 steps", up.look(3), 1000000000);
        Dark g = Scene.at("wide 7 2;home 0 0", "step 1000", 6, 0, 1);
        Check.due("look(5)", g.look(5), 0);
        Check.due("look(6)", g.look(6), 1000000000);
    }

    private static void post() {
        Dark d = new Dark();
        Check.due("post", d.post(0, 0, 0), true);
        Check.due("post", d.post(7, 11, 11), true);
        int[][] wrong = {{8, 0, 0}, {-1, 0, 0}, {0, 12, 0}, {0, 0, 12}, {0, -1, 0}, {0, 0, -1}};
        for (int[] one : wrong) {
            Check.due("post without these", d.post(one[0], one[1], one[2]), false);
        }
        Scene.text(d, 0, "path 0 0 0 0;path 11 11 11 11");
        Check.due("both", d.parish(0, 0), 129);
        d.post(0, 3, 0);
        Check.due("in place of what it was", d.parish(0, 0), -2);
        Check.due("in place of what it was", d.parish(0, 3), 129);
        d.post(0, 12, 0);
        Check.due("nothing happened", d.parish(0, 3), 129);
    }

    private static void parish() {
        Dark d = new Dark();
        Scene.text(d, 0, "wide 6 3;path 0 0 5 0;path 1 2 1 2;wall 1 1 1 2;wall 4 0 4 0");
        Scene.text(d, 0, "wide 2 2");
        Check.due("without POSTS", d.parish(0, 40), -2);
        Check.due("without a path", d.parish(1, 0), 0);
        d.post(0, 11, 0);
        d.post(1, 4, 0);
        d.post(2, 2, 0);
        Check.due("beyond, at a wall", d.parish(0, 3), -2);
        // from (2, 0) to (5, 0): around the wall at (4, 0), 2 down, 3 along and 1 up less
        Check.due("around a wall", d.parish(0, 4), -2);
        Check.due("around a wall", d.parish(0, 5), 4);
        d.post(3, 5, 0);
        Check.due("two together", d.parish(0, 2), 12);
        Check.due("two together", d.parish(0, 1), -2);
        Check.due("fewest", d.parish(0, 5), 4);
        d.post(4, 3, 0);
        Check.due("the least number of those with two", d.parish(0, 2), 12);
        Check.due("one is enough", d.parish(0, 4), 16);
        d.post(5, 0, 0);
        d.post(6, 1, 0);
        Check.due("two of many", d.parish(0, 3), 12);
        Check.due("fewest, then least", d.parish(0, 2), 12);
        Check.due("each its own", d.parish(0, 0), 4 + 8 + 16 + 32 + 64);
        Check.due("beyond the WOOD", d.parish(2, 0), -1);
        Check.due("WOOD -1", d.parish(-1, 0), -1);
        Check.due("r -1", d.parish(0, -1), -1);
        Check.due("r 41", d.parish(0, 41), -1);
        Check.due("r 40", d.parish(0, 40), 4);
        Check.due("without a path", d.parish(1, 40), 0);
    }

    private static void withoutAWalk() {
        Dark d = new Dark();
        for (int i = 0; i < 2; i++) {
            Check.due("row", d.row(1, 0, 0), -1);
            Check.due("soon", d.soon(1), -1);
            Check.due("left", d.left(1), -1);
            Check.due("fork", d.fork(0, 0, 0, 0, 0), -1);
            Check.due("remember", d.remember(0, 0, 1), -1);
            Check.due("tells", d.tells(), -1);
            Check.due("aim", d.aim(0, 0, 1), -1);
            Check.due("look", d.look(0), -1);
            Scene.text(d, 0, "wide 2 2");
            Scene.text(d, 1, "see 1");
        }
    }
}
