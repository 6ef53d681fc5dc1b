/** Terms III and promises 15 to 24, sentence by sentence: the last that is taken, the first that is refused. */
public final class AskBoundsTest {
    private static final int ALL = DarkWood.NONE;
    private static final int WHOLE = 1000000000;
    private static final int MIN = Integer.MIN_VALUE;
    private static final int MAX = Integer.MAX_VALUE;

    private AskBoundsTest() {
    }

    public static void main(String[] args) {
        codes();
        homes();
        harms();
        eyesOfRows();
        rowsBehindAll();
        soon();
        soonOfSeveral();
        left();
        leftBehindAll();
        fork();
        remember();
        rememberLeast();
        rememberLeftOut();
        tells();
        aim();
        look();
        lookAround();
        post();
        parish();
        parishFarOff();
        Check.finish();
    }

    private static void codes() {
        Check.sentence("A ROW of n ACTS (1 to 6) by a code: its digits to the base 4, the lowest first: 0 go, 1 left, 2 right, 3 back.");
        Dark d = Scene.at("wide 2 2;home 1 1", "step 1000;drift 0", 0, 0, 3);
        for (int n = 1; n <= 6; n++) {
            int codes = 1 << 2 * n;
            for (int what = 0; what <= 1; what++) {
                Check.due("row(" + n + ", 0, " + what + ")", d.row(n, 0, what), 0);
                Check.due("row(" + n + ", its last code, " + what + ")", d.row(n, codes - 1, what), 0);
                Check.due("row(" + n + ", one code more, " + what + ")", d.row(n, codes, what), -1);
                Check.due("row(" + n + ", -1, " + what + ")", d.row(n, -1, what), -1);
                Check.due("row(" + n + ", MAX, " + what + ")", d.row(n, MAX, what), -1);
                Check.due("row(" + n + ", MIN, " + what + ")", d.row(n, MIN, what), -1);
            }
            Check.due("row(" + n + ", 0, 2)", d.row(n, 0, 2), -1);
            Check.due("row(" + n + ", 0, -1)", d.row(n, 0, -1), -1);
        }
        for (int n : new int[] {0, 7, -1, 8, 16, 31, 32, 33, MIN, MAX}) {
            Check.due("row(" + n + ", 0, 0)", d.row(n, 0, 0), -1);
        }
        Check.due("row(0, 0, 1)", d.row(0, 0, 1), -1);
        // the way home from (0, 0), looking left: right, right, go, right, go, at each place of six
        int[] acts = {2, 2, 0, 2, 0};
        for (int late = 0; late <= 1; late++) {
            int code = 0;
            for (int i = 0; i < 5; i++) {
                code += acts[i] << 2 * (i + late);
            }
            // the sixth ACT is a go first (to the end) or last (from HOME, where nothing is left)
            Check.due("row(6, " + code + ", 0)", d.row(6, code, 0), WHOLE);
            Check.due("row(5, ..)", late == 0 ? d.row(5, code, 0) : WHOLE, WHOLE);
        }
        // back, go, right, go; back, go, left, go goes up, and is out
        Check.due("back, go, right, go", d.row(4, 3 + 0 * 4 + 2 * 16, 0), WHOLE);
        Check.due("back, go, left, go", d.row(4, 3 + 0 * 4 + 1 * 16, 0), 0);
        Check.due("left, go, left, go", d.row(4, 1 + 0 * 4 + 1 * 16, 0), WHOLE);
        Check.due("the highest first", d.row(4, 2 * 4 + 0 * 16 + 3 * 64, 0), 0);
        Check.sentence("Of a ROW what 0: HOMES, 1: HARMS; NONE without these (code 0 to one less than 4 to the n-th).");
        Dark none = Scene.told("wide 2 2", "step 1");
        Check.due("without a WALK", none.row(1, 0, 0), -1);
        Check.due("without a WALK", none.row(1, 0, 1), -1);
        Check.due("without anything", new Dark().row(1, 0, 0), -1);
    }

    private static void homes() {
        Check.sentence("HOMES in it: what WEIGHT comes to HOME by a go, each go (it counts then, and is gone), together with what is there"
                + " at first.");
        // half of what is left comes home with each go
        Dark d = Scene.at("wide 2 2;home 1 0", "step 500;drift 0", 0, 0, 1);
        int due = 0;
        int left = WHOLE;
        for (int n = 1; n <= 6; n++) {
            due += left / 2;
            left -= left / 2;
            Check.due("HOMES of " + n, d.row(n, 0, 0), due);
        }
        // gone: it neither comes back nor counts again, though it would go on and back
        Check.due("go, back, go, go", d.row(4, 3 * 4, 0), 500000000);
        // what is at HOME at first counts, with none, one, six gos, and is never more than all
        Dark e = Scene.at("wide 3 2;home 1 0", "step 500;drift 0", 1, 0, 1);
        Check.due("left", e.row(1, 1, 0), WHOLE);
        Check.due("go", e.row(1, 0, 0), WHOLE);
        Check.due("six", e.row(6, 0, 0), WHOLE);
        Check.due("go, back, go, go, go, go", e.row(6, 12, 0), WHOLE);
        Check.due("HARMS", e.row(6, 0, 1), 0);
        // HOME against the end: what stays there stays away
        Dark f = Scene.at("wide 2 2;home 1 0", "step 500;drift 0", 0, 0, 1);
        f.act(0);
        Check.due("half at first, half of the rest", f.row(1, 0, 0), 750000000);
        Check.due("half at first alone", f.row(6, 4095, 0), 500000000);
        // by a turn none comes, even if it is beside HOME
        Check.due("turns", d.row(6, 1 + 2 * 4 + 3 * 16 + 1 * 64 + 2 * 256 + 3 * 1024, 0), 0);
        // ahead, left and right
        Dark g = Scene.at("wide 3 3;home 1 0", "step 100;drift 300", 1, 1, 0);
        Check.due("ahead", g.row(1, 0, 0), 100000000);
        g.act(1);
        Check.due("to the right", g.row(1, 0, 0), 300000000);
        g.act(3);
        Check.due("to the left", g.row(1, 0, 0), 300000000);
        g.act(2);
        Check.due("behind", g.row(1, 0, 0), 0);
    }

    private static void harms() {
        Check.sentence("HARMS: ahead of each go RISK of what is left, together. (EYES go on as with ACTS; the WALK stays as it is.)");
        // more than an int holds: six times all of it
        Dark d = Scene.at("harm 1000 0 0 11 11;home 11 11", "step 0;drift 0", 0, 0, 1);
        for (int n = 1; n <= 6; n++) {
            Check.due("HARMS of " + n, d.row(n, 0, 1), n * 1000000000L);
        }
        Check.due("turns alone", d.row(6, 4095, 1), 0);
        Check.due("one go behind five turns", d.row(6, 1023, 1), WHOLE);
        Check.due("one go ahead of five turns", d.row(6, 4092, 1), WHOLE);
        // ahead of the go, not behind it; what came home is left out
        Dark e = Scene.at("wide 3 2;home 2 0;harm 1000 1 0 1 0;harm 1000 2 0 2 0", "step 1000;drift 0", 0, 0, 1);
        long[] due = {0, WHOLE, WHOLE, WHOLE};
        for (int n = 1; n <= 4; n++) {
            Check.due("HARMS of " + n, e.row(n, 0, 1), due[n - 1]);
        }
        // at HOME at first: nothing is left
        Dark f = Scene.at("wide 2 2;home 0 0;harm 1000 0 0 1 1", "step 0;drift 0", 0, 0, 1);
        Check.due("nothing is left", f.row(6, 0, 1), 0);
        f.act(4);
        Check.due("nothing is left", f.row(6, 0, 0), WHOLE);
        // downwards for each CELL
        Dark g = Scene.at("wide 4 2;home 3 1;harm 1 0 0 3 1;ground 1 0 0 0 0", "step 500;drift 0", 0, 0, 1);
        g.act(0);
        g.act(0);
        g.strike(0, false);
        Check.due("666666 and 333333", g.row(1, 0, 1), 999999);
        Check.due("as RISK", g.all(5), 999999);
    }

    private static void eyesOfRows() {
        Check.sentence("(EYES go on as with ACTS; the WALK stays as it is.)");
        // each go tells of as many EYES as there are then, 30 at most
        int[] sits = {0, 1, 24, 25, 28, 29, 30, 40};
        for (int sit : sits) {
            Dark d = Scene.at("wide 8 2;home 7 0;harm 1000 1 0 6 0", "step 1000 if eyes=30;step 0;drift 0", 0, 0, 1);
            Scene.acts(d, 4, sit);
            int eyes = Math.min(30, sit);
            int gone = 0;
            for (int i = 0; i < 6; i++) {
                gone += Math.min(30, eyes + i) == 30 ? 1 : 0;
            }
            Check.due("EYES go on: behind " + sit, d.row(6, 0, 1), Math.max(0, gone - 1) * 1000000000L);
            // also behind turns
            Dark e = Scene.at("wide 8 2;home 1 0", "step 1000 if eyes=5;step 0;drift 0", 0, 0, 0);
            Check.due("right, four backs and a go", e.row(6, 2 + 3 * (4 + 16 + 64 + 256), 0), WHOLE);
            Check.due("right, three backs and two gos", e.row(6, 2 + 3 * (4 + 16 + 64), 0), 0);
            Check.due("the WALK stays", d.count(6), eyes);
            Check.due("the WALK stays", d.count(4), sit);
            Check.due("the WALK stays", d.count(3), sit);
            Check.due("the WALK stays", d.odds(0, 0, 1), WHOLE);
        }
        // of the same twice the same
        Dark d = Scene.at("wide 8 2;home 7 0", "step eyes*30;drift 0", 0, 0, 1);
        long first = d.row(6, 0, 1);
        d.soon(5);
        d.row(6, 1234, 0);
        Check.due("the same again", d.row(6, 0, 1), first);
        Check.due("EYES", d.count(6), 0);
    }

    private static void rowsBehindAll() {
        Check.sentence("A ROW of n ACTS (1 to 6) by a code:");
        // a ROW is none of the 200
        Dark d = Scene.at("wide 2 2;home 1 0", "step 1000", 0, 0, 1);
        Scene.acts(d, 4, 200);
        Check.due("one more", d.act(4), -1);
        Check.due("a ROW", d.row(6, 0, 0), WHOLE);
        Check.due("SOON", d.soon(5), 0);
        Check.due("ACTS", d.count(3), 200);
    }

    private static void soon() {
        Check.sentence("SOON for n (1 to 5): the code with the most HOMES, of several with the least HARMS, then the least code.");
        Check.sentence("SOON; NONE without these.");
        Dark none = Scene.told("wide 2 2", "step 1");
        Check.due("without a WALK", none.soon(1), -1);
        Dark d = Scene.at("wide 2 2;home 1 1", "step 1000;drift 0", 0, 0, 3);
        for (int n : new int[] {0, 6, 7, -1, MIN, MAX}) {
            Check.due("soon(" + n + ")", d.soon(n), -1);
        }
        // to HOME left, go, left, go (17) or back, go, right, go (35), or right, right, go, right, go: first with four ACTS
        Check.due("soon(1)", d.soon(1), 0);
        Check.due("soon(2)", d.soon(2), 0);
        Check.due("soon(3)", d.soon(3), 0);
        Check.due("soon(4)", d.soon(4), 17);
        Check.due("soon(5)", d.soon(5), 17);
        Check.due("and that is all", d.row(4, 17, 0), WHOLE);
        // the last code of all: back five times over, where each go harms and only the last EYES go
        Dark e = Scene.at("wide 2 2;home 1 1;harm 1000 0 0 0 0", "step 0;drift 0", 0, 0, 3);
        Check.due("no go at all: left", e.soon(1), 1);
        Check.due("no go at all: left five times", e.soon(5), 341);
    }

    /** SOON by its words: all codes, the most HOMES, the least HARMS, the least code. */
    private static void soonOf(String when, Dark d, int n) {
        int best = -1;
        long homes = 0;
        long harms = 0;
        for (int code = 0; code < 1 << 2 * n; code++) {
            long theseHomes = d.row(n, code, 0);
            long theseHarms = d.row(n, code, 1);
            if (best < 0 || theseHomes > homes || theseHomes == homes && theseHarms < harms) {
                best = code;
                homes = theseHomes;
                harms = theseHarms;
            }
        }
        Check.due(when + ": soon(" + n + ")", d.soon(n), best);
    }

    private static void soonOfSeveral() {
        Check.sentence("SOON for n (1 to 5): the code with the most HOMES, of several with the least HARMS, then the least code.");
        String[] woods = {"wide 3 3;home 1 1", "wide 3 3;home 1 1;harm 7 0 0 2 2", "wide 3 3;home 2 2;wall 1 1 1 1;harm 500 0 1 0 2",
            "wide 4 2;home 3 1;harm 1 0 0 0 1", "wide 3 3;home 0 0;harm 1000 1 0 2 2"};
        for (String wood : woods) {
            for (int way = 0; way < 4; way++) {
                Dark d = Scene.at(wood, "step 700-100*eyes;drift 90", 0, 0, way);
                d.act(0);
                soonOf(wood, d, 1);
                soonOf(wood, d, 2);
                soonOf(wood, d, 3);
            }
        }
        // as many come home on two ways; one is harmed on the upper one
        Dark d = Scene.at("wide 2 2;home 1 1;harm 1 1 0 1 0", "step 1000;drift 0", 0, 0, 1);
        Check.due("right, go, left, go: 18, not go, right, go: 8", d.soon(4), 18);
        Check.due("three are too few for it", d.soon(3), 8);
        Dark e = Scene.at("wide 2 2;home 1 1;harm 1 0 1 0 1", "step 1000;drift 0", 0, 0, 1);
        Check.due("go, right, go", e.soon(4), 8);
    }

    private static void left() {
        Check.sentence("LEFT: the first ACT (from 0 on; SIGNS and MATCHES, too) behind which on was below a bar (1 to 1000).");
        Check.due("without a WALK", Scene.told("wide 2 2", "step 1").left(1), -1);
        Dark d = Scene.at("wide 3 2;path 0 0 0 0", "step 500;drift 0", 0, 0, 1);
        for (int bar : new int[] {0, 1001, -1, MIN, MAX}) {
            Check.due("left(" + bar + ")", d.left(bar), -1);
        }
        Check.due("no ACT", d.left(1), -2);
        Check.due("no ACT", d.left(1000), -2);
        d.act(4);
        Check.due("on 1000", d.left(1000), -2);
        d.act(0);
        Check.due("on 500", d.left(500), -2);
        Check.due("on 500", d.left(501), 1);
        Check.due("on 500", d.left(1000), 1);
        Check.due("on 500", d.left(1), -2);
        // back on it: what was below stays the first
        d.act(3);
        for (int i = 0; i < 12; i++) {
            d.act(0);
        }
        Check.due("on again", d.all(0) / 1000000 > 900, true);
        Check.due("the first", d.left(501), 1);
        Check.due("never below 500", d.left(500), -2);
        Check.due("0", Scene.at("wide 2 2", "step 1", 0, 0, 0).left(1), -2);
        // ACT 0, also of a SIGN, a match, a refused ACT is none
        for (int kind = 0; kind < 3; kind++) {
            Dark e = Scene.at("wide 2 2;path 0 0 0 0", "step 1", 1, 1, 0);
            Check.due("refused", e.felt(8), -1);
            Check.due("refused", e.strike(1, true), -1);
            if (kind == 0) {
                e.felt(0);
            } else if (kind == 1) {
                e.strike(0, false);
            } else {
                e.act(3);
            }
            Check.due("behind ACT 0", e.left(1), 0);
        }
        // a SIGN tells that he is off the path
        Dark f = Scene.at("wide 3 2;path 0 0 0 0;ground 1 0 0 0 0", "step 500;drift 0;feel 1000", 0, 0, 1);
        f.act(0);
        f.felt(0);
        f.act(4);
        Check.due("behind the SIGN", f.left(1), 1);
        Check.due("ahead of it", f.left(501), 0);
        Dark g = Scene.at("wide 3 2;path 0 0 0 0", "step 500;drift 0;feel 1000", 0, 0, 1);
        g.act(0);
        g.strike(0, false);
        Check.due("behind the match", g.left(1), 1);
    }

    private static void leftBehindAll() {
        Check.sentence("LEFT; -2: never; NONE without these.");
        // the last of 200
        Dark d = Scene.at("wide 3 2;path 0 0 0 0", "step 1000;drift 0", 0, 0, 1);
        Scene.acts(d, 4, 199);
        Check.due("never", d.left(1000), -2);
        d.act(0);
        Check.due("the last", d.left(1), 199);
        Check.due("the last", d.left(1000), 199);
        d.act(0);
        Check.due("one more is none", d.left(1), 199);
        d.walk(0, 0, 0, 0, 1);
        Check.due("a new WALK left nothing", d.left(1000), -2);
        d.act(4);
        Check.due("nor behind its first ACT", d.left(1000), -2);
    }

    private static void fork() {
        Check.sentence("FORK: ODDS of an AREA together, of which those that look one way.");
        Check.sentence("FORK of an AREA from a CELL to another one (not ahead of it; 0 to 11 each), way (NONE: all); NONE without these.");
        Check.due("without a WALK", Scene.told("wide 2 2", "step 1").fork(0, 0, 0, 0, 0), -1);
        Dark d = Scene.at("home 1 1", "step 400;drift 150", 10, 10, 2);
        int[][] wrong = {{-1, 0, 0, 0, 0}, {0, -1, 0, 0, 0}, {0, 0, -1, 0, 0}, {0, 0, 0, -1, 0}, {12, 0, 12, 0, 0}, {0, 12, 0, 12, 0},
            {0, 0, 12, 0, 0}, {0, 0, 0, 12, 0}, {12, 12, 12, 12, 0}, {1, 0, 0, 0, 0}, {0, 1, 0, 0, 0}, {11, 11, 10, 11, 0},
            {11, 11, 11, 10, 0}, {0, 0, 0, 0, -2}, {0, 0, 0, 0, 4}, {MIN, 0, 0, 0, 0}, {0, MIN, 0, 0, 0}, {0, 0, MAX, 0, 0},
            {0, 0, 0, MAX, 0}, {0, 0, 0, 0, MAX}, {0, 0, 0, 0, MIN}, {-1, -1, 11, 11, ALL}, {0, 0, 12, 12, ALL}};
        for (int[] one : wrong) {
            Check.due("fork without these", d.fork(one[0], one[1], one[2], one[3], one[4]), -1);
        }
        d.act(0);
        // 400 at (10, 11) down, 150 at (11, 10) right, 150 at (9, 10) left, 300 stay
        int[][] due = {{0, 0, 11, 11, ALL, 1000}, {11, 11, 11, 11, ALL, 0}, {0, 0, 0, 0, ALL, 0}, {10, 10, 10, 10, ALL, 300},
            {10, 11, 10, 11, ALL, 400}, {10, 11, 10, 11, 2, 400}, {10, 11, 10, 11, 1, 0}, {10, 10, 11, 11, ALL, 850},
            {0, 0, 10, 11, ALL, 850}, {0, 0, 11, 10, ALL, 600}, {0, 0, 9, 11, ALL, 150}, {0, 11, 11, 11, ALL, 400},
            {11, 0, 11, 11, ALL, 150}, {0, 0, 11, 11, 0, 0}, {0, 0, 11, 11, 1, 150}, {0, 0, 11, 11, 2, 700}, {0, 0, 11, 11, 3, 150},
            {9, 10, 11, 10, 2, 300}, {9, 10, 11, 10, ALL, 600}, {10, 0, 10, 11, ALL, 700}};
        for (int[] one : due) {
            Check.due("fork(" + one[0] + ", " + one[1] + ", " + one[2] + ", " + one[3] + ", " + one[4] + ")",
                    d.fork(one[0], one[1], one[2], one[3], one[4]), one[5] * 1000000);
        }
        // an AREA beyond the WOOD, in part or whole
        Dark e = Scene.at("wide 2 2", "step 500", 1, 1, 0);
        Check.due("in part", e.fork(1, 1, 11, 11, 0), WHOLE);
        Check.due("whole", e.fork(2, 0, 11, 11, ALL), 0);
        Check.due("whole", e.fork(0, 2, 11, 11, ALL), 0);
    }

    private static void remember() {
        Check.sentence("REMEMBER, the set; -2: none; NONE without these (bar 1 to 1000).");
        Check.due("without a WALK", Scene.told("wide 2 2", "step 1").remember(0, 0, 1), -1);
        Dark d = Scene.at("wide 3 2;wall 1 1 1 1", "step 500;drift 0", 0, 0, 1);
        int[][] wrong = {{-1, 0, 1}, {3, 0, 1}, {0, -1, 1}, {0, 2, 1}, {0, 0, 0}, {0, 0, 1001}, {0, 0, -1}, {MIN, 0, 1}, {MAX, 0, 1},
            {0, MIN, 1}, {0, MAX, 1}, {0, 0, MIN}, {0, 0, MAX}};
        for (int[] one : wrong) {
            Check.due("remember without these", d.remember(one[0], one[1], one[2]), -1);
        }
        // no ACT at all: 1000 at once
        Check.due("no ACT, no SIGN", d.remember(0, 0, 1000), 0);
        Check.due("no ACT, no SIGN", d.remember(0, 0, 1), 0);
        Check.due("nowhere else", d.remember(2, 1, 1), -2);
        Check.due("nor at a wall", d.remember(1, 1, 1), -2);
        d.act(0);
        Check.due("500", d.remember(1, 0, 500), 0);
        Check.due("501", d.remember(1, 0, 501), -2);
        // by 1000000, downwards: 333333333 is 333
        Dark e = Scene.at("wide 3 2;ground 1 0 0 0 0", "step 500;drift 0", 0, 0, 1);
        e.act(0);
        e.act(0);
        Check.due("a half", e.remember(1, 0, 500), 0);
        e.strike(0, false);
        Check.due("666", e.remember(1, 0, 666), 8);
        Check.due("667", e.remember(1, 0, 667), -2);
        Check.due("a third", e.remember(2, 0, 333), 8);
        Check.due("a third", e.remember(2, 0, 334), -2);
        Check.due("the WALK stays", e.count(5), 8);
        Check.due("the WALK stays", e.count(3), 3);
        Check.due("the WALK stays", e.odds(1, 0, ALL), 666666666);
    }

    private static void rememberLeast() {
        Check.sentence("REMEMBER for a CELL and a bar (thousandths): sorts of SIGNS 0 felt, 1 seen, 2 heard, 3 matches: the least set of these"
                + " (fewest, then least as a number) with which,");
        // each of the four sorts tells the same: half, or all of it
        String wood = "wide 2 2;ground 1 0 0 0 0;sky 1 0 0 0 0;source 9 0 0";
        String law = "step 500;drift 0;feel 1000;see 1000;hear 1000";
        for (int told = 0; told < 16; told++) {
            Dark d = Scene.at(wood, law, 0, 0, 1);
            d.act(0);
            Scene.acts(d, 4, 29);
            if ((told & 2) > 0) {
                Check.due("seen", d.seen(1) > 0, true);
            }
            if ((told & 1) > 0) {
                Check.due("felt", d.felt(1) > 0, true);
            }
            if ((told & 8) > 0) {
                Check.due("strike", d.strike(1, false), 8);
            }
            if ((told & 4) > 0) {
                Check.due("heard", d.heard(0, 9) > 0, true);
            }
            Check.due("sorts " + told + ": half", d.remember(0, 0, 500), 0);
            Check.due("sorts " + told + ": half", d.remember(1, 0, 500), 0);
            Check.due("sorts " + told + ": all", d.remember(0, 0, 1000), told == 0 ? -2 : Integer.lowestOneBit(told));
            Check.due("sorts " + told + ": all of the other", d.remember(1, 0, 501), -2);
        }
        // two of them are needed: 6 (seen, heard) ahead of 7, and 8 alone ahead of both
        Dark d = Scene.at(wood, "step 500;drift 0;feel 500;see 800;hear 800", 0, 0, 1);
        d.act(0);
        Scene.acts(d, 4, 29);
        d.felt(1);
        d.seen(1);
        d.heard(0, 9);
        // felt 500 : 71, seen 800 : 22, heard 800 : 50
        Check.due("felt alone", d.remember(0, 0, 875), 1);
        Check.due("heard alone, less than seen, more than felt", d.remember(0, 0, 941), 2);
        Check.due("seen alone", d.remember(0, 0, 973), 2);
        Check.due("felt and seen", d.remember(0, 0, 974), 3);
        Check.due("felt and seen", d.remember(0, 0, 996), 3);
        Check.due("seen and heard", d.remember(0, 0, 997), 6);
        Check.due("seen and heard", d.remember(0, 0, 998), 6);
        Check.due("all three", d.remember(0, 0, 999), 7);
        Check.due("none", d.remember(0, 0, 1000), -2);
    }

    private static void rememberLeftOut() {
        Check.sentence("all ACTS done again from the beginning with the SIGNS of these sorts alone (those that would be refused left out; a match"
                + " that would, or of another sort, is a sit), the CELL's ODDS by 1000000 are not below the bar.");
        // felt 1 stands only where it was seen that he is at (1, 0), or else it is refused: without seen, felt 1 is taken, too
        Dark d = Scene.at("wide 3 2;ground 1 0 0 0 0;sky 1 1 0 1 0", "step 1000 if eyes=0;step 0;drift 0;feel 1000", 0, 0, 1);
        d.strike(1, false);
        d.act(0);
        d.felt(0);
        // without the match he sits first, goes nowhere, and felt 0 is refused: left out, so that he is surely at (0, 0)
        Check.due("with none he stays", d.remember(0, 0, 1000), 0);
        Check.due("with the match he went", d.remember(1, 0, 1000), 8);
        Check.due("with the match he stays not", d.odds(0, 0, ALL), 0);
        // felt alone: refused, left out, and nothing else changes
        Check.due("nowhere else", d.remember(2, 0, 1), -2);
        // a match of another sort is a sit: EYES are 2 at the go
        Dark e = Scene.at("wide 4 2", "step 1000 if eyes=2;step 0;drift 0", 0, 0, 1);
        e.act(4);
        e.strike(0, false);
        e.act(0);
        Check.due("EYES were 0", e.odds(0, 0, ALL), WHOLE);
        Check.due("with none EYES are 2", e.remember(1, 0, 1000), 0);
        Check.due("with the match they are 0", e.remember(0, 0, 1000), 8);
        // all of 200, and from the beginning, also behind the EYES' 30
        Dark f = Scene.at("wide 12 2", "step 1000 if eyes=30;step 0;drift 0", 0, 0, 1);
        Scene.acts(f, 4, 30);
        Scene.acts(f, 0, 5);
        f.strike(0, false);
        Scene.acts(f, 4, 163);
        Check.due("ACTS", f.count(3), 199);
        f.act(0);
        Check.due("ACTS", f.count(3), 200);
        Check.due("with none", f.remember(6, 0, 1000), 0);
        Check.due("the last go, too", f.remember(5, 0, 1), -2);
        Check.due("as it is", f.odds(6, 0, ALL), WHOLE);
        Check.due("none more", f.act(0), -1);
    }

    private static void tells() {
        Check.sentence("TELLS: what a match would: of each of 8 grounds, with a path and without, the most ODDS of a CELL that is so, together.");
        Check.sentence("TELLS; NONE without a WALK.");
        Check.due("without a WALK", Scene.told("wide 2 2", "step 1").tells(), -1);
        Check.due("without anything", new Dark().tells(), -1);
        // sixteen sorts of CELLS in a row of eight by two, each its own: all of it, whatever came
        StringBuilder all = new StringBuilder("wide 8 2;path 0 1 7 1");
        for (int ground = 1; ground < 8; ground++) {
            all.append(";ground ").append(ground).append(' ').append(ground).append(" 0 ").append(ground).append(" 1");
        }
        Dark d = Scene.at(all.toString(), "step 500;drift 250", 0, 0, 1);
        for (int i = 0; i < 12; i++) {
            d.act(0);
            Check.due("each its own", d.tells(), d.all(6));
        }
        // two of one sort: the most of them; also without MATCHES, it is what a match would tell
        Dark e = Scene.at("wide 3 2", "step 400;drift 0", 0, 0, 1);
        Check.due("surely", e.tells(), WHOLE);
        e.act(0);
        Check.due("600", e.tells(), 600000000);
        for (int i = 0; i < 9; i++) {
            e.strike(0, false);
        }
        Check.due("without MATCHES", e.count(5), 0);
        Check.due("600", e.tells(), 600000000);
        // path or not, ground 7 or not
        Dark f = Scene.at("wide 3 2;path 0 0 0 0", "step 400;drift 0", 0, 0, 1);
        f.act(0);
        Check.due("a path tells", f.tells(), WHOLE);
        Dark g = Scene.at("wide 3 2;ground 7 0 0 0 0", "step 400;drift 0", 0, 0, 1);
        g.act(0);
        Check.due("ground 7 tells", g.tells(), WHOLE);
        Dark h = Scene.at("wide 3 2;sky 7 0 0 0 0;harm 9 0 0 0 0;source 9 0 0", "step 400;drift 0", 0, 0, 1);
        h.act(0);
        Check.due("nothing else tells", h.tells(), 600000000);
    }

    private static void aim() {
        Check.sentence("AIM by columns (0) or rows (1) for a line and a bar: the least k (0 to 12) with which ODDS of CELLS whose column (row) and"
                + " k together are above the line, by 1000000, are not below the bar.");
        Check.sentence("AIM (what 0, 1; line 0 to 11; bar 1 to 1000); -2: none; NONE without these.");
        Check.due("without a WALK", Scene.told("wide 2 2", "step 1").aim(0, 0, 1), -1);
        Dark d = Scene.at("home 1 1", "step 0;drift 0", 3, 9, 1);
        int[][] wrong = {{-1, 0, 1}, {2, 0, 1}, {MIN, 0, 1}, {MAX, 0, 1}, {0, -1, 1}, {0, 12, 1}, {0, MIN, 1}, {0, MAX, 1}, {0, 0, 0},
            {0, 0, 1001}, {0, 0, MIN}, {0, 0, MAX}, {1, 12, 1}, {1, 0, 0}};
        for (int[] one : wrong) {
            Check.due("aim without these", d.aim(one[0], one[1], one[2]), -1);
        }
        // surely in column 3, row 9: 3 + k above the line
        for (int line = 0; line <= 11; line++) {
            for (int bar = 1; bar <= 1000; bar += 999) {
                Check.due("aim(0, " + line + ", " + bar + ")", d.aim(0, line, bar), Math.max(0, line + 1 - 3));
                Check.due("aim(1, " + line + ", " + bar + ")", d.aim(1, line, bar), Math.max(0, line + 1 - 9));
            }
        }
        // the least and the most: column 0 for line 11 is 12; column 11 for line 10 is 0, and for 11 it is 1
        Dark e = Scene.at("home 1 1", "step 0;drift 0", 0, 11, 1);
        Check.due("12", e.aim(0, 11, 1000), 12);
        Check.due("1", e.aim(1, 11, 1000), 1);
        Check.due("0", e.aim(1, 10, 1000), 0);
        Check.due("1", e.aim(0, 0, 1), 1);
        // half of it is enough for one bar, all of it for another; 999 together are never 1000
        Dark f = Scene.at("wide 3 2;ground 1 0 0 0 0", "step 500;drift 0", 0, 0, 1);
        f.act(0);
        Check.due("500 in column 1", f.aim(0, 0, 500), 0);
        Check.due("501", f.aim(0, 0, 501), 1);
        f.act(0);
        f.strike(0, false);
        Check.due("333 in column 2", f.aim(0, 1, 333), 0);
        Check.due("334", f.aim(0, 1, 334), 1);
        Check.due("999", f.aim(0, 1, 999), 1);
        Check.due("1000: none", f.aim(0, 1, 1000), -2);
        Check.due("1000: none", f.aim(1, 11, 1000), -2);
        Check.due("999 of all", f.aim(1, 11, 999), 12);
    }

    private static void look() {
        Check.sentence("LOOK for n (0 to 6): the most ODDS of CELLS together that one can go over from HOME (counted, too) in n steps at most,"
                + " each to a CELL beside the last one that is no wall (each CELL counts once).");
        Check.sentence("LOOK; NONE without these.");
        Check.due("without a WALK", Scene.told("wide 2 2", "step 1").look(0), -1);
        // each way: a row of eight CELLS, surely at its end after n steps
        String[] woods = {"wide 2 8;home 0 7", "wide 8 2;home 0 0", "wide 2 8;home 0 0", "wide 8 2;home 7 0"};
        for (int way = 0; way < 4; way++) {
            Dark d = Scene.told(woods[way], "step 0;drift 0");
            for (int n : new int[] {-1, 7, 8, 16, 31, MIN, MAX}) {
                Check.due("look(" + n + ") without a WALK", d.look(n), -1);
            }
            int homeX = d.wood(0, 2);
            int homeY = d.wood(0, 3);
            for (int off = 0; off <= 7; off++) {
                d.walk(0, 0, homeX + off * Model.DX[way], homeY + off * Model.DY[way], 0);
                for (int n = 0; n <= 6; n++) {
                    Check.due("look(" + n + ") for " + off + " away", d.look(n), n >= off ? WHOLE : 0);
                }
            }
            for (int n : new int[] {-1, 7, 8, 16, 31, MIN, MAX}) {
                Check.due("look(" + n + ")", d.look(n), -1);
            }
        }
    }

    private static void lookAround() {
        Check.sentence("in n steps at most, each to a CELL beside the last one that is no wall (each CELL counts once).");
        // 400 at HOME, 200 above, left and right each
        Dark d = Scene.at("wide 5 5;home 2 2", "step 200;drift 200", 2, 2, 0);
        d.act(0);
        int[] due = {400, 600, 600, 800, 800, 1000, 1000};
        for (int n = 0; n <= 6; n++) {
            Check.due("look(" + n + ")", d.look(n), due[n] * 1000000);
        }
        // a wall at one side, and HOME walled in
        Dark e = Scene.at("wide 3 3;home 0 0;wall 1 0 1 1", "step 0;drift 0", 2, 0, 0);
        Check.due("around the wall: six steps", e.look(6), WHOLE);
        Check.due("around the wall: five", e.look(5), 0);
        Dark f = Scene.at("wide 3 3;home 0 0;wall 1 0 1 0;wall 0 1 0 1", "step 0;drift 0", 1, 1, 0);
        Check.due("walled in", f.look(6), 0);
        Check.due("walled in", f.look(0), 0);
        f.walk(0, 0, 0, 0, 0);
        Check.due("at HOME", f.look(0), WHOLE);
        Check.due("at HOME, counted once", f.look(6), WHOLE);
        // a ring of eight around a wall: seven CELLS in six steps
        Dark g = Scene.at("wide 3 3;home 0 0;wall 1 1 1 1", "step 500;drift 0", 0, 0, 1);
        for (int i = 0; i < 2; i++) {
            g.act(0);
        }
        g.act(2);
        for (int i = 0; i < 2; i++) {
            g.act(0);
        }
        g.act(2);
        for (int i = 0; i < 4; i++) {
            g.act(0);
        }
        for (int n = 0; n <= 6; n++) {
            int[] ring = {0, 1, 2, 5, 8, 7, 6, 3};
            int there = 0;
            int back = g.odds(0, 0, ALL);
            for (int i = 0; i <= n; i++) {
                there += g.odds(ring[i] % 3, ring[i] / 3, ALL);
                back += i > 0 ? g.odds(ring[8 - i] % 3, ring[8 - i] / 3, ALL) : 0;
            }
            int most = Math.max(there, back);
            // or first to one side, and over HOME to the other
            for (int aside = 1; 2 * aside < n; aside++) {
                int both = g.odds(0, 0, ALL);
                int other = g.odds(0, 0, ALL);
                for (int i = 1; i <= aside; i++) {
                    both += g.odds(ring[i] % 3, ring[i] / 3, ALL);
                    other += g.odds(ring[8 - i] % 3, ring[8 - i] / 3, ALL);
                }
                for (int i = 1; i <= n - 2 * aside; i++) {
                    both += g.odds(ring[8 - i] % 3, ring[8 - i] / 3, ALL);
                    other += g.odds(ring[i] % 3, ring[i] / 3, ALL);
                }
                most = Math.max(most, Math.max(both, other));
            }
            Check.due("around a ring: look(" + n + ")", g.look(n), most);
        }
    }

    private static void post() {
        Check.sentence("POSTS 0 to 7: CELLS told by a parish.");
        Check.sentence("A POST (0 to 7) is a CELL (0 to 11 each), in place of what it was: true; false, and nothing happens, for others.");
        Dark d = new Dark();
        Check.due("text", Scene.text(d, 0, "path 0 0 0 0;path 11 11 11 11;path 0 11 0 11;path 11 0 11 0;home 5 5"), 0);
        int[][] wrong = {{-1, 0, 0}, {8, 0, 0}, {MIN, 0, 0}, {MAX, 0, 0}, {0, -1, 0}, {0, 12, 0}, {0, MIN, 0}, {0, MAX, 0}, {0, 0, -1},
            {0, 0, 12}, {0, 0, MIN}, {0, 0, MAX}, {7, 12, 12}, {8, 11, 11}};
        for (int[] one : wrong) {
            Check.due("post without these", d.post(one[0], one[1], one[2]), false);
        }
        Check.due("none was told", d.parish(0, 22), -2);
        Check.due("post(0, 0, 0)", d.post(0, 0, 0), true);
        Check.due("post(7, 11, 11)", d.post(7, 11, 11), true);
        Check.due("post(3, 0, 11)", d.post(3, 0, 11), true);
        Check.due("one is left out", d.parish(0, 0), -2);
        Check.due("post(4, 11, 0)", d.post(4, 11, 0), true);
        Check.due("each its own", d.parish(0, 0), 1 + 128 + 8 + 16);
        for (int[] one : wrong) {
            Check.due("post without these", d.post(one[0], one[1], one[2]), false);
        }
        Check.due("nothing happened", d.parish(0, 0), 1 + 128 + 8 + 16);
        Check.due("in place of what it was", d.post(7, 1, 1), true);
        Check.due("in place of what it was", d.parish(0, 0), -2);
        Check.due("in place of what it was", d.post(1, 11, 11), true);
        Check.due("another one for it", d.parish(0, 0), 1 + 2 + 8 + 16);
        Check.due("two at one CELL", d.post(0, 11, 11), true);
        Check.due("the first CELL is left out", d.parish(0, 0), -2);
        Check.due("and told again", d.post(6, 0, 0), true);
        Check.due("the least of the two", d.parish(0, 0), 1 + 64 + 8 + 16);
    }

    private static void parish() {
        Check.sentence("PARISH for r (0 to 40): the least set of POSTS (fewest, then least as a number) so that each CELL with a path that is no"
                + " wall has one of these at most r steps away (over CELLS that are no walls).");
        Check.sentence("PARISH in a WOOD by the POSTS that are told (those beyond it, or at a wall, do nothing); -2: none; NONE without these.");
        Dark d = new Dark();
        Check.due("without a WOOD", d.parish(0, 0), -1);
        Check.due("text", Scene.text(d, 0, "wide 12 2;path 0 0 11 0;home 0 1"), 0);
        Check.due("text", Scene.text(d, 0, "wide 2 2"), 1);
        int[][] wrong = {{-1, 0}, {2, 0}, {MIN, 0}, {MAX, 0}, {0, -1}, {0, 41}, {0, MIN}, {0, MAX}, {4, 0}};
        for (int[] one : wrong) {
            Check.due("parish without these", d.parish(one[0], one[1]), -1);
        }
        Check.due("no path: none is needed", d.parish(1, 0), 0);
        Check.due("no path: none is needed", d.parish(1, 40), 0);
        Check.due("no POSTS", d.parish(0, 0), -2);
        Check.due("no POSTS", d.parish(0, 40), -2);
        d.post(2, 5, 0);
        Check.due("six steps to the last", d.parish(0, 5), -2);
        Check.due("six steps to the last", d.parish(0, 6), 4);
        Check.due("six steps to the last", d.parish(0, 40), 4);
        d.post(5, 6, 0);
        Check.due("the least of two that are enough", d.parish(0, 6), 4);
        Check.due("both", d.parish(0, 5), 36);
        Check.due("five steps are needed", d.parish(0, 4), -2);
        d.post(0, 2, 0);
        d.post(1, 8, 0);
        Check.due("fewest ahead of least: two", d.parish(0, 5), 3);
        Check.due("three or four less", d.parish(0, 3), 3);
        Check.due("0 to 2 and 8 to 11", d.parish(0, 2), -2);
        d.post(7, 6, 1);
        Check.due("one alone, the least", d.parish(0, 7), 4);
        // all eight are needed
        Dark e = new Dark();
        Check.due("text", Scene.text(e, 0, "wide 12 2;path 0 0 7 0"), 0);
        for (int k = 0; k < 8; k++) {
            Check.due("without POST " + k, e.parish(0, 0), -2);
            e.post(k, 7 - k, 0);
        }
        Check.due("all eight", e.parish(0, 0), 255);
        Check.due("1 away: 1, 4 and 7 or the like", e.parish(0, 1), leastFor(1));
        Check.due("2 away", e.parish(0, 2), leastFor(2));
        Check.due("3 away", e.parish(0, 3), leastFor(3));
        Check.due("4 away", e.parish(0, 4), leastFor(4));
        Check.due("without a WALK, too", e.count(3), -1);
    }

    /** For a row of eight paths, POST k at column 7 - k. */
    private static int leastFor(int r) {
        int best = -1;
        for (int set = 0; set < 256; set++) {
            boolean enough = true;
            for (int x = 0; x < 8; x++) {
                boolean near = false;
                for (int k = 0; k < 8; k++) {
                    near |= (set >> k & 1) == 1 && Math.abs(7 - k - x) <= r;
                }
                enough &= near;
            }
            if (enough && (best < 0 || Integer.bitCount(set) < Integer.bitCount(best))) {
                best = set;
            }
        }
        return best;
    }

    private static void parishFarOff() {
        Check.sentence("(those beyond it, or at a wall, do nothing)");
        Dark d = new Dark();
        Check.due("text", Scene.text(d, 0, "wide 3 2;path 0 0 11 11;wall 1 0 1 0;wall 1 1 1 1;home 0 0"), 0);
        Check.due("text", Scene.text(d, 0, "wide 4 3;path 0 0 11 11;wall 2 2 2 2"), 1);
        d.post(0, 1, 0);
        d.post(1, 3, 0);
        d.post(2, 0, 2);
        d.post(3, 11, 11);
        Check.due("at a wall and beyond", d.parish(0, 40), -2);
        d.post(4, 0, 1);
        Check.due("behind the wall there is no way", d.parish(0, 40), -2);
        d.post(5, 2, 1);
        Check.due("one at each side", d.parish(0, 1), 16 + 32);
        Check.due("the wall's path needs none", d.parish(0, 40), 16 + 32);
        Check.due("in another WOOD all but one count", d.parish(1, 40), 1);
        // exactly 40 and 41 steps away, around walls
        String maze = "wall 0 1 10 1;wall 1 3 11 3;wall 0 5 10 5;wall 1 7 11 7;home 11 11";
        Dark e = new Dark();
        // down the maze row after row: (0, 0) to (11, 0) is 11, (11, 2) 13, (0, 2) 24, (0, 4) 26, (11, 4) 37, (11, 6) 39, (9, 6) 41
        Check.due("text", Scene.text(e, 0, maze + ";path 10 6 10 6"), 0);
        Check.due("text", Scene.text(e, 0, maze + ";path 9 6 9 6"), 1);
        e.post(0, 0, 0);
        Check.due("40 steps away", e.parish(0, 40), 1);
        Check.due("40 steps away", e.parish(0, 39), -2);
        Check.due("41 steps away", e.parish(1, 40), -2);
        Check.due("41 is none", e.parish(1, 41), -1);
        e.post(7, 10, 6);
        Check.due("1 away", e.parish(1, 1), 128);
        Check.due("0 away", e.parish(0, 0), 128);
        Check.due("the least of both", e.parish(0, 40), 1);
    }
}
