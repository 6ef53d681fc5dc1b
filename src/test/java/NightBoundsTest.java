/** Terms IV and promises 25 to 27, sentence by sentence: the last that is taken, the first that is refused. */
public final class NightBoundsTest {
    private static final int MIN = Integer.MIN_VALUE;
    private static final int MAX = Integer.MAX_VALUE;

    private NightBoundsTest() {
    }

    public static void main(String[] args) {
        arguments();
        seedsAndRounds();
        drawsOfGoing();
        drawsOfHarm();
        beginning();
        withoutTheLimit();
        theWalkStays();
        actsOfRules();
        brinksOfGoing();
        wallsAndEnds();
        home();
        fell();
        strikes();
        feltWrongly();
        seenWrongly();
        heardWrongly();
        surelyTold();
        refusedOnes();
        noSignsBehindTheEnd();
        wordsOfARule();
        thousandths();
        nights();
        finest();
        Check.finish();
    }

    private static Dark at(String wood, String law, String... rules) {
        Dark d = Scene.told(wood, law, rules);
        Check.due("walk", d.walk(0, 0, d.wood(0, 2), d.wood(0, 3), 0), true);
        return d;
    }

    /** What 0, 1, .. of a NIGHT, as far as they are told. */
    private static void night(String when, Dark d, int rule, int x, int y, int way, int seed, int n, int... due) {
        for (int what = 0; what < due.length; what++) {
            Check.due(when + ": night(" + rule + ", " + x + ", " + y + ", " + way + ", " + seed + ", " + n + ", " + what + ")",
                    d.night(rule, x, y, way, seed, n, what), due[what]);
        }
    }

    private static void arguments() {
        Check.sentence("A NIGHT what 0: 1 HOME, 2 FELL, 0 neither, 1: rounds, 2, 3: x, y of where he is truly, 4: way, 5: MATCHES, 6: his own SURE"
                + " by 1000000, downwards. NONE without these (no WALK, too).");
        int[][] wrong = {{-1, 0, 0, 0, 0, 1}, {2, 0, 0, 0, 0, 1}, {6, 0, 0, 0, 0, 1}, {MIN, 0, 0, 0, 0, 1}, {MAX, 0, 0, 0, 0, 1},
            {0, -1, 0, 0, 0, 1}, {0, 4, 0, 0, 0, 1}, {0, MIN, 0, 0, 0, 1}, {0, MAX, 0, 0, 0, 1}, {0, 0, -1, 0, 0, 1}, {0, 0, 3, 0, 0, 1},
            {0, 0, MIN, 0, 0, 1}, {0, 0, MAX, 0, 0, 1}, {0, 1, 1, 0, 0, 1}, {0, 0, 0, -1, 0, 1}, {0, 0, 0, 4, 0, 1}, {0, 0, 0, MIN, 0, 1},
            {0, 0, 0, MAX, 0, 1}, {0, 0, 0, 0, -1, 1}, {0, 0, 0, 0, MIN, 1}, {0, 0, 0, 0, 0, 0}, {0, 0, 0, 0, 0, -1}, {0, 0, 0, 0, 0, 100},
            {0, 0, 0, 0, 0, MIN}, {0, 0, 0, 0, 0, MAX}};
        Dark d = at("wide 4 3;wall 1 1 1 1;home 3 2", "step 0;drift 0", "go", "sit");
        for (int[] one : wrong) {
            for (int what = 0; what <= 6; what += 3) {
                Check.due("night without these", d.night(one[0], one[1], one[2], one[3], one[4], one[5], what), -1);
            }
            Check.due("nights without these", d.nights(one[0], one[1], one[2], one[3], one[4], one[5], 1, 2), -1);
            if (one[0] == 0) {
                Check.due("finest without these", d.finest(one[1], one[2], one[3], one[4], one[5], 1), -1);
            }
        }
        int[][] right = {{0, 0, 0, 0, 0, 1}, {1, 0, 0, 0, 0, 1}, {0, 3, 0, 0, 0, 1}, {0, 0, 2, 0, 0, 1}, {0, 0, 0, 3, 0, 1},
            {0, 0, 0, 0, MAX, 1}, {0, 0, 0, 0, 0, 99}, {1, 2, 1, 3, MAX, 99}};
        for (int[] one : right) {
            night("with these", d, one[0], one[1], one[2], one[3], one[4], one[5], 0, one[5], one[1], one[2], one[3], 9, 1000);
            Check.due("nights with these", d.nights(one[0], one[1], one[2], one[3], one[4], one[5], 1, 2), one[5]);
            Check.due("finest with these", d.finest(one[1], one[2], one[3], one[4], one[5], 1), 0);
        }
        for (int what : new int[] {-1, 7, MIN, MAX}) {
            Check.due("night what " + what, d.night(0, 0, 0, 0, 0, 1, what), -1);
        }
        Dark none = Scene.told("wide 4 3", "step 0", "go");
        for (int what = 0; what <= 6; what++) {
            Check.due("night without a WALK", none.night(0, 0, 0, 0, 0, 1, what), -1);
        }
        Check.due("nights without a WALK", none.nights(0, 0, 0, 0, 0, 1, 1, 0), -1);
        Check.due("finest without a WALK", none.finest(0, 0, 0, 0, 1, 1), -1);
        Check.due("walk", none.walk(0, 0, 0, 0, 0), true);
        Check.due("night", none.night(0, 0, 0, 0, 0, 1, 1), 1);
        Check.sentence("NIGHTS what 0: HOME, 1: FELL, 2: rounds; NONE without these.");
        for (int what : new int[] {-1, 3, MIN, MAX}) {
            Check.due("nights what " + what, d.nights(0, 0, 0, 0, 0, 1, 1, what), -1);
        }
        for (int times : new int[] {0, 10, -1, MIN, MAX}) {
            Check.due("nights " + times + " times", d.nights(0, 0, 0, 0, 0, 1, times, 2), -1);
            Check.due("finest " + times + " times", d.finest(0, 0, 0, 0, 1, times), -1);
        }
        for (int times = 1; times <= 9; times++) {
            Check.due("nights " + times + " times", d.nights(0, 0, 0, 0, 0, 1, times, 2), times);
            Check.due("finest " + times + " times", d.finest(0, 0, 0, 0, 1, times), 0);
        }
    }

    private static void seedsAndRounds() {
        Check.sentence("from a CELL and way, by a seed x (0 to 2147483647), in n rounds (1 to 99):");
        Dark d = at("wide 12 2;home 0 1", "step 1000;drift 0", "go");
        for (int n : new int[] {1, 2, 10, 11, 12, 98, 99}) {
            night("n rounds", d, 0, 0, 0, 1, MAX, n, 0, n, Math.min(n, 11), 0, 1, 9, 1000);
            night("n rounds", d, 0, 0, 0, 1, 0, n, 0, n, Math.min(n, 11), 0, 1, 9, 1000);
        }
        night("HOME at the last of them", d, 0, 9, 1, 3, 0, 9, 1, 9, 0, 1);
        night("one too few for HOME", d, 0, 9, 1, 3, 0, 8, 0, 8, 1, 1);
        night("rounds that came, not those that could", d, 0, 9, 1, 3, 0, 99, 1, 9, 0, 1);
    }

    /** Seeds whose DRAWS are looked at closely: the ends of what a seed may be, and others. */
    private static final int[] SEEDS = {0, 1, 2, 65535, 65536, 99999, 1073741823, 1073741824, 1234567890, 2147483646, 2147483647};

    private static void drawsOfGoing() {
        Check.sentence("where he is truly is gone on with by draws (a DRAW: x becomes x * 1103515245 + 12345, of 2147483648 the rest;"
                + " it is x / 65536).");
        for (int seed : SEEDS) {
            Draws.seed(seed);
            int drawn = Draws.draw(1000);
            // just not below a, and just below it: so the DRAW is that very number
            Dark stays = at("wide 4 2;home 3 1", "step " + drawn + ";drift 0", "go");
            night("not below", stays, 0, 0, 0, 1, seed, 1, 0, 1, 0, 0, 1);
            Dark goes = at("wide 4 2;home 3 1", "step " + (drawn + 1) + ";drift 0", "go");
            night("below", goes, 0, 0, 0, 1, seed, 1, 0, 1, 1, 0, 1);
            // the DRAWS of ten rounds: go, harm, felt, seen (100 of 1000, and then one more if not)
            Dark far = at("wide 12 2;home 0 1", "step 500;drift 0;feel 1000;see 0", "go");
            Draws.seed(seed);
            int x = 0;
            for (int n = 1; n <= 10; n++) {
                x += Draws.draw(1000) < 500 ? 1 : 0;
                Draws.draw(1000);
                Draws.draw(1000);
                if (Draws.draw(1000) >= 100) {
                    Draws.draw(9);
                }
                night("one behind the other", far, 0, 0, 0, 1, seed, n, 0, n, x, 0, 1);
            }
        }
    }

    private static void drawsOfHarm() {
        Check.sentence("else, behind a go, if a DRAW mod 1000 is below the harm of his CELL, it ends: he FELL.");
        for (int seed : SEEDS) {
            Draws.seed(seed);
            Draws.draw(1000);
            int drawn = Draws.draw(1000);
            Dark stands = at("wide 4 2;home 3 1;harm " + drawn + " 0 0 2 0", "step 1000;drift 0", "go");
            night("not below", stands, 0, 0, 0, 1, seed, 1, 0, 1, 1, 0, 1);
            Dark falls = at("wide 4 2;home 3 1;harm " + (drawn + 1) + " 0 0 2 0", "step 1000;drift 0", "go");
            night("below", falls, 0, 0, 0, 1, seed, 1, 2, 1, 1, 0, 1);
            // of his CELL, where he has come to: not of the one he came from
            Dark other = at("wide 4 2;home 3 1;harm 1000 0 0 0 0", "step 1000;drift 0", "go");
            night("harm behind him", other, 0, 0, 0, 1, seed, 1, 0, 1, 1, 0, 1);
        }
        Dark d = at("wide 4 2;home 3 1;harm 1000 1 0 1 0", "step 1000;drift 0", "go");
        Dark e = at("wide 4 2;home 3 1;harm 999 1 0 1 0", "step 1000;drift 0", "go");
        Dark f = at("wide 4 2;home 3 1;harm 0 1 0 1 0", "step 1000;drift 0", "go");
        int most = Draws.seedFor(-1000, 999);
        int nextToIt = Draws.seedFor(-1000, 998);
        int least = Draws.seedFor(-1000, 0);
        night("1000: always", d, 0, 0, 0, 1, most, 9, 2, 1, 1, 0);
        night("999: not by 999", e, 0, 0, 0, 1, most, 1, 0, 1, 1, 0);
        night("999: by 998", e, 0, 0, 0, 1, nextToIt, 1, 2, 1, 1, 0);
        night("0: not even by 0", f, 0, 0, 0, 1, least, 1, 0, 1, 1, 0);
    }

    private static void beginning() {
        Check.sentence("one begins there, surely, as a WALK does (without the limit of 200);");
        // the WALK's own STEPS, MATCHES, EYES, WEIGHTS are not the NIGHT's
        Dark d = at("wide 4 2;home 3 1;path 0 0 0 0", "step 500;drift 0;feel 1000",
                "left if steps=0 and matches=9 and eyes=0 and on=1000 and sure=1000 and at=0", "left if at=1000 and on=0", "strike");
        Scene.acts(d, 4, 40);
        for (int i = 0; i < 9; i++) {
            Check.due("strike", d.strike(0, false), 8 - i);
        }
        d.act(0);
        night("as a WALK begins", d, 0, 0, 0, 1, 5, 1, 0, 1, 0, 0, 0, 9, 1000);
        night("as a WALK begins", d, 0, 0, 0, 1, 5, 2, 0, 2, 0, 0, 0, 9, 1000);
        night("surely at HOME", d, 1, 3, 1, 1, 5, 2, 1, 1, 3, 1, 0, 9, 1000);
        night("nine MATCHES", d, 2, 0, 0, 1, 5, 99, 0, 99, 0, 0, 1, 0, 1000);
        Check.due("the WALK has none", d.count(5), 0);
    }

    private static void withoutTheLimit() {
        Check.sentence("one begins there, surely, as a WALK does (without the limit of 200);");
        // 99 rounds with three SIGNS each are more than 200: the last steps, SIGNS and matches count, too
        String wood = "wide 4 2;home 3 1;ground 5 1 0 1 0;sky 7 1 0 1 0;source 9 1 0;path 1 0 1 0";
        String law = "step 1000;drift 0;feel 1000;see 1000;hear 1000";
        String[] tests = {"steps=97", "steps=97 and ground=5", "steps=97 and sky=7", "steps=97 and loud=9", "steps=98 and path=1 and matches=8",
            "steps=97 and eyes=30"};
        for (String test : tests) {
            boolean match = test.contains("path");
            Dark d = at(wood, law, "left if " + test + (match ? ";strike if steps=97" : "") + ";go if steps=95;sit");
            night(test, d, 0, 0, 0, 1, 7, 97, 0, 97, 1, 0, 1);
            night(test, d, 0, 0, 0, 1, 7, 99, 0, 99, 1, 0, 0, match ? 8 : 9, 1000);
        }
        // as many gos, and the odds go with him
        Dark d = at("wide 2 2;home 1 1", "step 1000;drift 0", "left if steps=98;go");
        night("98 gos and a left", d, 0, 0, 0, 1, 7, 99, 0, 99, 1, 0, 0, 9, 1000);
    }

    private static void theWalkStays() {
        Check.sentence("A NIGHT by a RULE, in a WALK's WOOD by its LAW,");
        Dark d = at("wide 3 2;home 2 1", "step 500;drift 0;feel 1000", "go", "strike;go");
        d.walk(0, 0, 0, 0, 1);
        d.act(0);
        d.felt(0);
        int[] before = {d.count(3), d.count(4), d.count(5), d.count(6), d.odds(0, 0, 1), d.odds(1, 0, 1), d.all(6), d.left(1000)};
        d.night(1, 0, 0, 1, 9, 99, 0);
        d.nights(1, 0, 0, 1, 9, 99, 9, 0);
        d.finest(0, 0, 1, 9, 99, 9);
        int[] behind = {d.count(3), d.count(4), d.count(5), d.count(6), d.odds(0, 0, 1), d.odds(1, 0, 1), d.all(6), d.left(1000)};
        for (int i = 0; i < before.length; i++) {
            Check.due("the WALK stays: " + i, behind[i], before[i]);
        }
        Check.due("the same again", d.night(0, 0, 0, 1, 12, 9, 2), d.night(0, 0, 0, 1, 12, 9, 2));
        // its WOOD, its LAW, whatever was told later
        Check.due("text", Scene.text(d, 0, "wide 9 2;home 8 0;wall 4 1 4 1"), 1);
        Check.due("text", Scene.text(d, 1, "step 1000;drift 0"), 1);
        Check.due("not beyond its WOOD", d.night(0, 5, 0, 1, 0, 9, 0), -1);
        Check.due("walk", d.walk(1, 1, 0, 0, 0), true);
        night("the other WOOD and LAW", d, 0, 5, 0, 1, 0, 9, 1, 3, 8, 0, 1);
        Check.due("a wall of it", d.night(0, 4, 1, 1, 0, 9, 0), -1);
    }

    private static void actsOfRules() {
        Check.sentence("A round: the ACT of the first CLAUSE of the RULE without a TEST, or whose TEST holds (sit without).");
        String[] rules = {"left;right", "left if 1=2;right;back", "left if 1=1;right", "left if 1=2;right if 1=2", Scene.many("left if 1=2", 11) + ";back",
            "sit;left"};
        int[] ways = {0, 2, 0, 1, 3, 1};
        Dark d = at("wide 3 3;home 2 2", "step 1000", rules);
        for (int rule = 0; rule < 6; rule++) {
            night(rules[rule], d, rule, 0, 0, 1, 3, 1, 0, 1, 0, 0, ways[rule], 9, 1000);
        }
    }

    private static void brinksOfGoing() {
        Check.sentence("go: a DRAW mod 1000 below a: ahead; below a + d: to the left; below a + 2 * d: to the right; else he stays");
        int[][] brinks = {{300, 200}, {1000, 500}, {0, 0}, {0, 500}, {1, 499}, {998, 500}, {999, 500}, {0, 1}, {600, 0}};
        for (int[] one : brinks) {
            int a = one[0];
            int d = Math.min(one[1], (1000 - a) / 2);
            Dark dark = at("wide 3 3;home 0 0", "step " + a + ";drift " + one[1], "go");
            for (int drawn : new int[] {0, a - 1, a, a + d - 1, a + d, a + 2 * d - 1, a + 2 * d, 999}) {
                if (drawn < 0 || drawn > 999) {
                    continue;
                }
                int which = drawn < a ? 0 : drawn < a + d ? 3 : drawn < a + 2 * d ? 1 : -1;
                int seed = Draws.seedFor(drawn);
                for (int way = 1; way <= 2; way++) {
                    int to = (way + which) % 4;
                    int x = which < 0 ? 1 : 1 + Model.DX[to];
                    int y = which < 0 ? 1 : 1 + Model.DY[to];
                    night("step " + a + ", drift " + one[1] + ", drawn " + drawn, dark, 0, 1, 1, way, seed, 1, 0, 1, x, y,
                            which < 0 ? way : to);
                }
            }
        }
        Check.sentence("(a, d of where he is truly; a wall, the end: he stays, looking as he did).");
        // the same odds at both CELLS, but he is truly at the second, where no step goes
        Dark mire = at("wide 4 2;home 0 1;ground 1 1 0 1 0", "step 0 if ground=1;step 500;drift 0", "go");
        int goes = Draws.seedFor(0);
        night("to it", mire, 0, 0, 0, 1, goes, 1, 0, 1, 1, 0, 1);
        night("and never on", mire, 0, 0, 0, 1, goes, 50, 0, 50, 1, 0, 1);
    }

    private static void wallsAndEnds() {
        Check.sentence("(a, d of where he is truly; a wall, the end: he stays, looking as he did).");
        int aheadSeed = Draws.seedFor(0);
        int leftSeed = Draws.seedFor(400);
        int rightSeed = Draws.seedFor(700);
        int[] seeds = {aheadSeed, leftSeed, rightSeed};
        int[] turns = {0, 3, 1};
        for (String wood : new String[] {"wide 2 2;home 1 1", "home 1 1;wall 2 0 2 11;wall 0 2 11 2"}) {
            Dark d = at(wood, "step 400;drift 300", "go");
            for (int way = 0; way < 4; way++) {
                for (int i = 0; i < 3; i++) {
                    int to = (way + turns[i]) % 4;
                    boolean goes = to == 1 || to == 2;
                    night(wood, d, 0, 0, 0, way, seeds[i], 1, 0, 1, to == 1 ? 1 : 0, to == 2 ? 1 : 0, goes ? to : way);
                }
            }
        }
        // the far corner
        Dark d = at("home 0 0", "step 400;drift 300", "go");
        for (int way = 0; way < 4; way++) {
            for (int i = 0; i < 3; i++) {
                int to = (way + turns[i]) % 4;
                boolean goes = to == 0 || to == 3;
                night("the far corner", d, 0, 11, 11, way, seeds[i], 1, 0, 1, to == 3 ? 10 : 11, to == 0 ? 10 : 11, goes ? to : way);
            }
        }
    }

    private static void home() {
        Check.sentence("Then, if he is at HOME, the NIGHT ends: HOME;");
        String[] rules = {"go", "left", "right", "back", "sit", "strike"};
        Dark d = at("wide 3 3;home 1 1;harm 1000 0 0 2 2;ground 7 1 1 1 1", "step 1000;drift 0", rules);
        int[] ways = {1, 0, 2, 3, 1, 1};
        for (int rule = 1; rule < 6; rule++) {
            night("behind any ACT", d, rule, 1, 1, 1, 5, 99, 1, 1, 1, 1, ways[rule], rule == 5 ? 8 : 9, 1000);
        }
        night("but not if he went away", d, 0, 1, 1, 1, 5, 99, 2, 1, 2, 1, 1, 9, 1000);
        night("to HOME, ahead of harm", d, 0, 0, 1, 1, 5, 99, 1, 1, 1, 1, 1, 9, 1000);
        night("to HOME, at the only round", d, 0, 0, 1, 1, 5, 1, 1, 1, 1, 1, 1, 9, 1000);
        // HOME by staying there: the end ahead of him
        Dark e = at("wide 2 2;home 1 0", "step 1000", "go");
        night("he stays at HOME", e, 0, 1, 0, 1, 5, 99, 1, 1, 1, 0, 1, 9, 1000);
        // where his odds say HOME, but he is truly not there
        int stays = Draws.seedFor(999);
        Dark f = at("wide 3 2;home 1 0", "step 999;drift 0", "go");
        night("truly", f, 0, 0, 0, 1, stays, 1, 0, 1, 0, 0, 1);
    }

    private static void fell() {
        Check.sentence("else, behind a go, if a DRAW mod 1000 is below the harm of his CELL, it ends: he FELL.");
        String[] rules = {"go", "left", "right", "back", "sit", "strike"};
        Dark d = at("wide 2 2;home 1 1;harm 1000 0 0 1 1", "step 0;drift 0", rules);
        night("a go that stays", d, 0, 0, 0, 1, 5, 99, 2, 1, 0, 0, 1, 9, 1000);
        int[] ways = {1, 2, 0, 3, 1, 1};
        for (int rule = 1; rule < 6; rule++) {
            night("behind another ACT none falls", d, rule, 0, 0, 1, 5, 99, 0, 99, 0, 0, ways[rule], rule == 5 ? 0 : 9, 1000);
        }
        // no DRAW for the harm behind another ACT: the next go is drawn next behind the SIGNS
        for (int seed : SEEDS) {
            Draws.seed(seed);
            Draws.draw(1000);
            if (Draws.draw(1000) >= 100) {
                Draws.draw(9);
            }
            boolean goes = Draws.draw(1000) < 500;
            Dark e = at("wide 3 2;home 2 1;harm 1000 0 0 0 0", "step 500;drift 0;feel 1000;see 0", "sit if steps=0;go");
            night("a sit, and then a go", e, 0, 0, 0, 1, seed, 2, goes ? 0 : 2, 2, goes ? 1 : 0, 0, 1);
        }
    }

    private static void strikes() {
        Check.sentence("strike without a match is a sit; with one, his CELL's ground and path are shown (a sit, if that is refused).");
        Dark d = at("wide 3 2;home 2 1;path 0 0 0 0;ground 7 0 0 0 0", "step 1000;drift 0;feel 1000;see 1000", "strike",
                "left if path=1 and matches=8;strike", "left if path=0 and matches=8;strike", "left if matches=0 and eyes=3 and steps=12;strike",
                "left if matches=0 and eyes=4;strike", "left if eyes=1;strike");
        for (int n = 1; n <= 12; n++) {
            night("so many strikes", d, 0, 0, 0, 1, 3, n, 0, n, 0, 0, 1, Math.max(0, 9 - n), 1000);
        }
        night("a path is shown", d, 1, 0, 0, 1, 3, 2, 0, 2, 0, 0, 0, 8);
        night("a path is shown", d, 2, 0, 0, 1, 3, 2, 0, 2, 0, 0, 1, 7);
        night("no path is shown", d, 1, 1, 0, 1, 3, 2, 0, 2, 1, 0, 1, 7);
        night("no path is shown", d, 2, 1, 0, 1, 3, 2, 0, 2, 1, 0, 0, 8);
        night("nine strikes and three sits", d, 3, 0, 0, 1, 3, 13, 0, 13, 0, 0, 0, 0);
        night("EYES go on with sits", d, 4, 0, 0, 1, 3, 14, 0, 14, 0, 0, 0, 0);
        night("behind a match EYES are 0", d, 5, 0, 0, 1, 3, 9, 0, 9, 0, 0, 1, 0);
        // the least of odds is enough: one step of a thousand
        int seed = Draws.seedFor(0);
        Dark e = at("wide 5 2;home 4 1;ground 1 1 0 1 0", "step 1;drift 0;feel 0", "go if steps=0;strike if steps=1;left if path=0 and matches=8;sit");
        night("one of a thousand", e, 0, 0, 0, 1, seed, 1, 0, 1, 1, 0, 1, 9);
        night("shown, not refused", e, 0, 0, 0, 1, seed, 3, 0, 3, 1, 0, 0, 8);
        // refused: he stays at (0, 0), but what he felt wrongly was (1, 0) alone, so that a match can't show ground 1
        int lost = lostSeed();
        Dark f = at("wide 3 2;home 2 1;ground 1 0 0 0 0;ground 2 1 0 1 0;path 0 0 0 0", "step 500;drift 0;feel 995",
                "go if steps=0;left if matches=9 and eyes=2 and steps=2 and path=99;strike", "go if steps=0;strike");
        night("where he is", f, 0, 0, 0, 1, lost, 1, 0, 1, 0, 0, 1, 9, 1000);
        night("refused: a sit", f, 0, 0, 0, 1, lost, 2, 0, 2, 0, 0, 1, 9, 1000);
        night("refused: a sit, EYES went on", f, 0, 0, 0, 1, lost, 3, 0, 3, 0, 0, 0, 9, 1000);
        night("refused each time", f, 1, 0, 0, 1, lost, 3, 0, 3, 0, 0, 1, 9, 1000);
    }

    /** He stays at ground 1, and feels ground 2, by a LAW of step 500, drift 0, feel 995; then twice rightly. */
    private static int lostSeed() {
        for (int seed = 0; seed < 400000000; seed++) {
            Draws.seed(seed);
            boolean lost = Draws.draw(1000) >= 500;
            Draws.draw(1000);
            lost = lost && Draws.draw(1000) >= 995 && Draws.draw(7) == 0;
            for (int round = 0; round < 2 && lost; round++) {
                if (Draws.draw(1000) >= 100) {
                    Draws.draw(9);
                }
                lost = Draws.draw(1000) < 995;
            }
            if (lost) {
                return seed;
            }
        }
        Check.due("there is such a seed", false, true);
        return 0;
    }

    /** A seed of so many that are looked at. */
    private static int nextSeed(int seed) {
        return seed + 9999991;
    }

    private static void feltWrongly() {
        Check.sentence("felt: a DRAW mod 1000 below feel: his ground, else (ground + 1 + a DRAW mod 7) mod 8;");
        for (int ground : new int[] {0, 1, 6, 7}) {
            int told = 0;
            for (int seed = 3; seed < 2100000000 && told != 127; seed = nextSeed(seed)) {
                Draws.seed(seed);
                int slip = Draws.draw(1000) < 500 ? -1 : Draws.draw(7);
                if (slip < 0 || (told >> slip & 1) == 1) {
                    continue;
                }
                told |= 1 << slip;
                int due = (ground + 1 + slip) % 8;
                Dark d = at("wide 2 2;home 1 1;ground " + ground + " 0 0 1 1", "feel 500", "left if ground=" + due + ";sit");
                night("ground " + ground + ", slip " + slip, d, 0, 0, 0, 1, seed, 2, 0, 2, 0, 0, 0);
            }
            Check.due("each slip came", told, 127);
        }
        Dark d = at("wide 2 2;home 1 1;ground 7 0 0 1 1", "feel 500", "left if ground=7;sit");
        night("499", d, 0, 0, 0, 1, Draws.seedFor(499), 2, 0, 2, 0, 0, 0);
        night("500", d, 0, 0, 0, 1, Draws.seedFor(500), 2, 0, 2, 0, 0, 1);
    }

    private static void seenWrongly() {
        Check.sentence("seen: a DRAW mod 1000 below e: his sky, else (sky + 1 + a DRAW mod 9) mod 10;");
        for (int sky : new int[] {0, 1, 8, 9}) {
            int told = 0;
            for (int seed = 5; seed < 2100000000 && told != 511; seed = nextSeed(seed)) {
                Draws.seed(seed);
                Draws.draw(1000);
                int slip = Draws.draw(1000) < 100 ? -1 : Draws.draw(9);
                if (slip < 0 || (told >> slip & 1) == 1) {
                    continue;
                }
                told |= 1 << slip;
                int due = (sky + 1 + slip) % 10;
                Dark d = at("wide 2 2;home 1 1;sky " + sky + " 0 0 1 1", "feel 1000;see 1000", "left if sky=" + due + ";sit");
                night("sky " + sky + ", slip " + slip, d, 0, 0, 0, 1, seed, 2, 0, 2, 0, 0, 0);
            }
            Check.due("each slip came", told, 511);
        }
        // e by EYES: 1 behind a sit is 100 at least; by 30 it is see
        Dark d = at("wide 2 2;home 1 1;sky 9 0 0 1 1", "feel 1000;see 1000", "left if sky=9 and steps=1;sit", "left if sky=9 and steps=5;sit");
        night("99", d, 0, 0, 0, 1, Draws.seedFor(-1000, 99), 2, 0, 2, 0, 0, 0);
        night("100", d, 0, 0, 0, 1, Draws.seedFor(-1000, 100), 2, 0, 2, 0, 0, 1);
        // EYES 5: 166
        boolean below = false;
        boolean above = false;
        for (int seed = 7; seed < 2100000000 && !(below && above); seed = seed + 99991) {
            Draws.seed(seed);
            int drawn = 0;
            for (int eyes = 1; eyes <= 5; eyes++) {
                Draws.draw(1000);
                drawn = Draws.draw(1000);
                if (drawn >= Math.max(100, 1000 * eyes / 30)) {
                    Draws.draw(9);
                }
            }
            if (drawn == 165 && !below) {
                below = true;
                night("165 with EYES 5", d, 1, 0, 0, 1, seed, 6, 0, 6, 0, 0, 0);
            } else if (drawn == 166 && !above) {
                above = true;
                night("166 with EYES 5", d, 1, 0, 0, 1, seed, 6, 0, 6, 0, 0, 1);
            }
        }
        Check.due("both came", below && above, true);
    }

    private static void heardWrongly() {
        Check.sentence("heard of SOURCE 0, if there is one: a DRAW mod 1000 below hear: as LOUD, else a DRAW mod 2: 0: 1 less (0 at least),"
                + " 1: 1 more (40 at most).");
        int[] louds = {0, 1, 2, 20, 39, 40};
        for (int loud : louds) {
            // LOUD at (0, 0); a second SOURCE is not listened to
            String source = loud == 0 ? "source 1 11 11" : "source " + loud + " 0 0";
            int told = 0;
            for (int seed = 11; seed < 2100000000 && told != 7; seed = nextSeed(seed)) {
                Draws.seed(seed);
                Draws.draw(1000);
                if (Draws.draw(1000) >= 100) {
                    Draws.draw(9);
                }
                int slip = Draws.draw(1000) < 500 ? 2 : Draws.draw(2);
                if ((told >> slip & 1) == 1) {
                    continue;
                }
                told |= 1 << slip;
                int due = slip == 2 ? loud : slip == 0 ? Math.max(0, loud - 1) : Math.min(40, loud + 1);
                Dark d = at("wide 2 2;home 1 1;" + source + ";source 30 0 0", "feel 1000;hear 500", "left if loud=" + due + ";sit");
                night("LOUD " + loud + ", slip " + slip, d, 0, 0, 0, 1, seed, 2, 0, 2, 0, 0, 0);
            }
            Check.due("each came", told, 7);
        }
        // none to hear: no DRAW for it, and loud stays 99
        for (int seed : SEEDS) {
            Draws.seed(seed);
            Draws.draw(1000);
            if (Draws.draw(1000) >= 100) {
                Draws.draw(9);
            }
            boolean goes = Draws.draw(1000) < 500;
            Dark d = at("wide 3 2;home 2 1", "step 500;drift 0;feel 1000;see 0;hear 0", "sit if steps=0;go if loud=99;left");
            night("nothing to hear", d, 0, 0, 0, 1, seed, 2, 0, 2, goes ? 1 : 0, 0, 1);
        }
        Dark d = at("wide 2 2;home 1 1;source 9 0 0", "feel 1000;hear 500", "left if loud=9 and steps=1;sit");
        night("499", d, 0, 0, 0, 1, Draws.seedFor(-1000, -100, 499), 2, 0, 2, 0, 0, 0);
        night("500", d, 0, 0, 0, 1, Draws.seedFor(-1000, -100, 500), 2, 0, 2, 0, 0, 1);
    }

    private static void surelyTold() {
        Check.sentence("Then SIGNS (refused ones change nothing, nor what was felt, seen, heard last):");
        // feel 1000 never slips, also by the highest DRAW; feel 0 always, also by the lowest
        Dark d = at("wide 2 2;home 1 1;ground 7 0 0 1 1;source 9 0 0", "feel 1000;hear 1000", "left if ground=7 and steps=1;sit",
                "left if loud=9 and steps=1;sit");
        night("999", d, 0, 0, 0, 1, Draws.seedFor(999), 2, 0, 2, 0, 0, 0);
        night("999", d, 1, 0, 0, 1, Draws.seedFor(-1000, -100, 999), 2, 0, 2, 0, 0, 0);
        Dark e = at("wide 2 2;home 1 1;ground 7 0 0 1 1;source 9 0 0", "feel 0;hear 0", "left if ground=7 and steps=1;sit",
                "left if loud=9 and steps=1;sit", "left if ground=99 and steps=1;sit");
        night("0", e, 0, 0, 0, 1, Draws.seedFor(0), 2, 0, 2, 0, 0, 1);
        night("0", e, 2, 0, 0, 1, Draws.seedFor(0), 2, 0, 2, 0, 0, 1);
        for (int seed : SEEDS) {
            night("always slips", e, 0, 0, 0, 1, seed, 2, 0, 2, 0, 0, 1);
            night("always slips", e, 1, 0, 0, 1, seed, 2, 0, 2, 0, 0, 1);
            night("never slips", d, 0, 0, 0, 1, seed, 2, 0, 2, 0, 0, 0);
            night("never slips", d, 1, 0, 0, 1, seed, 2, 0, 2, 0, 0, 0);
        }
        // EYES 30, see 1000: never
        Dark f = at("wide 2 2;home 1 1;sky 9 0 0 1 1", "see 1000", "left if sky=9 and steps=30;sit");
        for (int seed : SEEDS) {
            night("never slips", f, 0, 0, 0, 1, seed, 31, 0, 31, 0, 0, 0);
        }
    }

    private static void refusedOnes() {
        Check.sentence("Then SIGNS (refused ones change nothing, nor what was felt, seen, heard last):");
        // feel 999: what is felt wrongly stands nowhere (a seventh of 1 is 0), and is refused: so ground stays as it was
        int wrongly = Draws.seedFor(999);
        int rightly = Draws.seedFor(998);
        Dark d = at("wide 2 2;home 1 1;ground 7 0 0 1 1", "feel 999", "left if ground=99 and steps=1;sit", "left if ground=7 and steps=1;sit",
                "left if sure=1000 and on=0 and ground=99 and steps=1;sit");
        night("refused: 99 still", d, 0, 0, 0, 1, wrongly, 2, 0, 2, 0, 0, 0, 9, 1000);
        night("refused: not 7", d, 1, 0, 0, 1, wrongly, 2, 0, 2, 0, 0, 1, 9, 1000);
        night("the odds stay", d, 2, 0, 0, 1, wrongly, 2, 0, 2, 0, 0, 0, 9, 1000);
        night("taken: 7", d, 1, 0, 0, 1, rightly, 2, 0, 2, 0, 0, 0, 9, 1000);
        // feel 993: a seventh of 7 is 1, so that it is taken
        int slipped = Draws.seedFor(993);
        Dark e = at("wide 2 2;home 1 1;ground 7 0 0 1 1", "feel 993", "left if ground=99 and steps=1;sit", "left if ground<7 and steps=1;sit");
        night("taken, though wrong", e, 0, 0, 0, 1, slipped, 2, 0, 2, 0, 0, 1, 9, 1000);
        night("taken, though wrong", e, 1, 0, 0, 1, slipped, 2, 0, 2, 0, 0, 0, 9, 1000);
        // heard: hear 997, a fourth of 3 is 0
        int deaf = Draws.seedFor(-1000, -100, 998);
        Dark f = at("wide 2 2;home 1 1;source 9 0 0", "feel 1000;hear 997", "left if loud=99 and steps=1;sit", "left if loud=9 and steps=1;sit");
        night("heard nothing", f, 0, 0, 0, 1, deaf, 2, 0, 2, 0, 0, 0, 9, 1000);
        night("heard nothing", f, 1, 0, 0, 1, deaf, 2, 0, 2, 0, 0, 1, 9, 1000);
        // the others are told all the same: sky behind a felt that was refused
        Dark g = at("wide 2 2;home 1 1;ground 7 0 0 1 1", "feel 999", "left if sky<99 and steps=1;sit");
        night("seen all the same", g, 0, 0, 0, 1, wrongly, 2, 0, 2, 0, 0, 0, 9, 1000);
    }

    private static void noSignsBehindTheEnd() {
        Check.sentence("Then, if he is at HOME, the NIGHT ends: HOME;");
        // a SIGN would make him sure
        int goes = Draws.seedFor(0);
        Dark d = at("wide 2 2;home 1 0;ground 7 1 0 1 0", "step 500;drift 0;feel 1000", "go");
        night("HOME, but not sure of it", d, 0, 0, 0, 1, goes, 9, 1, 1, 1, 0, 1, 9, 500);
        Dark e = at("wide 2 2;home 1 1;ground 7 1 0 1 0;harm 1000 1 0 1 0", "step 500;drift 0;feel 1000", "go");
        night("FELL, and not sure of it", e, 0, 0, 0, 1, goes, 9, 2, 1, 1, 0, 1, 9, 500);
        Dark f = at("wide 2 2;home 1 1;ground 7 1 0 1 0", "step 500;drift 0;feel 1000", "go");
        night("neither: the SIGNS of the last round, too", f, 0, 0, 0, 1, goes, 1, 0, 1, 1, 0, 1, 9, 1000);
    }

    private static void wordsOfARule() {
        Check.sentence("of a RULE: on, at, sure (thousandths, see II), ground, sky, loud (as felt, seen, heard last, not what a match showed;"
                + " 99 each ahead of the first time), steps, matches, eyes, path (1 if the last match showed it, 0 if not, 99 ahead of the"
                + " first one).");
        String wood = "wide 2 2;home 1 1;ground 4 0 0 0 0;source 9 0 0;path 0 0 0 0";
        String law = "feel 1000;hear 1000";
        // ahead of the first time, all of them at once
        Dark d = at(wood, law, "left if ground=99 and sky=99 and loud=99 and path=99 and steps=0 and eyes=0 and matches=9 and on=1000 and at=0"
                + " and sure=1000", "left if ground=4 and loud=9 and sky<10 and path=99 and steps=1;sit",
                "strike if steps<2;left if path=1 and matches=7 and eyes=0;sit", "strike if steps=0;left if path=1 and eyes=2;sit");
        night("ahead of the first time", d, 0, 0, 0, 1, 5, 1, 0, 1, 0, 0, 0);
        night("behind a round, but no match", d, 1, 0, 0, 1, 5, 2, 0, 2, 0, 0, 0);
        night("behind two matches", d, 2, 0, 0, 1, 5, 3, 0, 3, 0, 0, 0);
        night("the last match, two sits ago", d, 3, 0, 0, 1, 5, 4, 0, 4, 0, 0, 0);
        // begun anew, nothing is left of the NIGHT before
        night("ahead of the first time", d, 0, 0, 0, 1, 5, 1, 0, 1, 0, 0, 0);
        Check.due("nor of the one before in NIGHTS", d.nights(0, 0, 0, 1, 5, 1, 9, 2), 9);
        // a refused match and one that isn't there show nothing: path stays as the last one showed it
        Dark e = at("wide 3 2;home 2 1;path 0 0 0 0", "step 1000;drift 0;feel 1000",
                "strike if steps<9;go if steps=9;strike if steps=10;left if path=1;right", "strike if steps<8;go if steps=8;strike if steps=9;left if path=1;right");
        night("the tenth isn't there", e, 0, 0, 0, 1, 5, 12, 0, 12, 1, 0, 0, 0);
        night("the ninth is", e, 1, 0, 0, 1, 5, 11, 0, 11, 1, 0, 2, 0);
        // what a match showed is not felt: ground 4 is shown, and always felt wrongly
        Dark f = at(wood, "feel 0", "strike if steps=0;left if ground=4;sit");
        for (int seed : SEEDS) {
            night("felt wrongly", f, 0, 0, 0, 1, seed, 2, 0, 2, 0, 0, 1, 8);
        }
    }

    private static void thousandths() {
        Check.sentence("on, at, sure: these by 1000000, downwards.");
        // half and half behind a go; HOME is the other half
        int stays = Draws.seedFor(999, -1000);
        String[] tests = {"on=500", "at=500", "sure=500", "on+at=1000"};
        Dark d = at("wide 3 2;home 1 0;path 0 0 0 0", "step 500;drift 0;feel 1000", "go if steps=0;left if on=500;sit",
                "go if steps=0;left if at=500;sit", "go if steps=0;left if sure=500;sit", "go if steps=0;left if on+at=1000;sit");
        for (int rule = 0; rule < 4; rule++) {
            night(tests[rule], d, rule, 0, 0, 1, stays, 2, 0, 2, 0, 0, 0, 9, 500);
        }
        // felt where it is so, 800 to 28: 966183574 and 33816425
        int rightly = Draws.seedFor(999, -1000, -800);
        Dark e = at("wide 3 2;home 1 0;path 0 0 0 0;ground 1 0 0 0 0", "step 500;drift 0", "go if steps=0;left if on=966;sit",
                "go if steps=0;left if at=33;sit", "go if steps=0;left if sure=966;sit");
        for (int rule = 0; rule < 3; rule++) {
            night("downwards", e, rule, 0, 0, 1, rightly, 2, 0, 2, 0, 0, 0, 9);
            night("his own SURE", e, rule, 0, 0, 1, rightly, 1, 0, 1, 0, 0, 1, 9, 966);
        }
    }

    private static void nights() {
        Check.sentence("NIGHTS: so many (1 to 9), one behind the other (x goes on): how many end at HOME, how many FELL, all rounds together.");
        Dark d = at("wide 3 2;home 2 0;harm 1000 0 1 2 1", "step 1000;drift 0", "go", "sit");
        for (int times = 1; times <= 9; times++) {
            Check.due("all HOME", d.nights(0, 0, 0, 1, 5, 99, times, 0), times);
            Check.due("none FELL", d.nights(0, 0, 0, 1, 5, 99, times, 1), 0);
            Check.due("two rounds each", d.nights(0, 0, 0, 1, 5, 99, times, 2), 2 * times);
            Check.due("none HOME", d.nights(0, 0, 0, 2, 5, 99, times, 0), 0);
            Check.due("all FELL", d.nights(0, 0, 0, 2, 5, 99, times, 1), times);
            Check.due("one round each", d.nights(0, 0, 0, 2, 5, 99, times, 2), times);
            Check.due("neither", d.nights(1, 0, 0, 2, 5, 99, times, 0), 0);
            Check.due("neither", d.nights(1, 0, 0, 2, 5, 99, times, 1), 0);
            Check.due("all rounds", d.nights(1, 0, 0, 2, 5, 99, times, 2), 99 * times);
        }
        // x goes on: each next NIGHT begins with the seed that the last one left; one go, one harm each, HOME makes no more DRAW
        for (int seed : SEEDS) {
            Dark e = at("wide 3 2;home 2 0;harm 300 0 0 2 1", "step 500;drift 0;feel 1000;see 0", "go");
            int homes = 0;
            int falls = 0;
            int rounds = 0;
            Draws.seed(seed);
            for (int times = 1; times <= 9; times++) {
                int x = 0;
                boolean ended = false;
                for (int n = 0; n < 4 && !ended; n++) {
                    rounds++;
                    x += Draws.draw(1000) < 500 ? 1 : 0;
                    if (x == 2) {
                        homes++;
                        ended = true;
                    } else if (Draws.draw(1000) < 300) {
                        falls++;
                        ended = true;
                    } else {
                        Draws.draw(1000);
                        if (Draws.draw(1000) >= 100) {
                            Draws.draw(9);
                        }
                    }
                }
                Check.due("HOME of " + times, e.nights(0, 0, 0, 1, seed, 4, times, 0), homes);
                Check.due("FELL of " + times, e.nights(0, 0, 0, 1, seed, 4, times, 1), falls);
                Check.due("rounds of " + times, e.nights(0, 0, 0, 1, seed, 4, times, 2), rounds);
            }
            Check.due("not all alike", homes < 9 && falls < 9, true);
        }
    }

    private static void finest() {
        Check.sentence("FINEST RULE: by which most end at HOME, of several the fewest FELL, then the least.");
        Check.sentence("FINEST RULE; -2: there are no RULES; NONE without these.");
        Dark d = at("wide 3 2;home 2 0;harm 1000 0 1 2 1", "step 1000;drift 0");
        Check.due("no RULES", d.finest(0, 0, 1, 5, 9, 9), -2);
        Check.due("no RULES", d.finest(0, 0, 1, MAX, 99, 1), -2);
        Check.due("no RULES, and 10 times", d.finest(0, 0, 1, 5, 9, 10), -1);
        Check.due("a FAULT is no RULE", Scene.text(d, 2, "go if"), Scene.fault(5, 0));
        Check.due("no RULES", d.finest(0, 0, 1, 5, 9, 9), -2);
        // FELL, neither, neither, HOME, HOME: the last of six is looked at, too
        String[] rules = {"right if steps=0;go", "sit", "left", "right if steps=0;go", "go if 1=2", "go"};
        int[] due = {0, 1, 1, 1, 1, 5};
        for (int i = 0; i < 6; i++) {
            Check.due("text", Scene.text(d, 2, rules[i]), i);
            Check.due("finest of " + (i + 1), d.finest(0, 0, 1, 5, 9, 9), due[i]);
        }
        Check.due("one round is too few for HOME: the first that FELL not", d.finest(0, 0, 1, 5, 1, 9), 0);
        Check.due("two for HOME", d.finest(0, 0, 1, 5, 2, 9), 5);
        // more HOME ahead of fewer FELL
        Dark e = at("wide 3 2;home 2 0;harm 500 0 0 2 1", "step 1000;drift 0", "sit", "go", "go");
        for (int seed : SEEDS) {
            int homes = e.nights(1, 0, 0, 1, seed, 9, 9, 0);
            Check.due("though some FELL", e.nights(1, 0, 0, 1, seed, 9, 9, 1), 9 - homes);
            Check.due("the least of the two", e.finest(0, 0, 1, seed, 9, 9), homes > 0 ? 1 : 0);
        }
    }
}
