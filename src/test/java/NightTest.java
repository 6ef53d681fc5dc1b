/** Promises 25 to 27: NIGHTS, by draws that are drawn here once more. */
public final class NightTest {
    private NightTest() {
    }

    public static void main(String[] args) {
        home();
        neither();
        fallen();
        going();
        turning();
        feeling();
        seeing();
        hearing();
        striking();
        refusedSigns();
        wordsOfOdds();
        own();
        nights();
        finest();
        wrong();
        brinks();
        Check.finish();
    }

    private static Dark at(String wood, String law, String... rules) {
        Dark d = new Dark();
        Check.due(wood, Scene.text(d, 0, wood), 0);
        Check.due(law, Scene.text(d, 1, law), 0);
        for (int i = 0; i < rules.length; i++) {
            Check.due(rules[i], Scene.text(d, 2, rules[i]), i);
        }
        int home = d.wood(0, 2);
        Check.due("walk", d.walk(0, 0, home, d.wood(0, 3), 0), true);
        return d;
    }

    private static void night(String when, Dark d, int rule, int[] start, int seed, int n, int... due) {
        for (int what = 0; what < due.length; what++) {
            String call = when + ": night(" + rule + ", .., " + seed + ", " + n + ", " + what + ")";
            Check.due(call, d.night(rule, start[0], start[1], start[2], seed, n, what), due[what]);
        }
    }

    private static void home() {
        Dark d = at("wide 5 2;home 4 0", "step 1000", "go", "sit", "left;go", "strike;go");
        int[] start = {0, 0, 1};
        night("straight home", d, 0, start, 7, 99, 1, 4, 4, 0, 1, 9, 1000);
        night("at the last round", d, 0, start, 7, 4, 1, 4, 4, 0, 1, 9, 1000);
        night("the largest seed", d, 0, start, 2147483647, 99, 1, 4, 4, 0, 1, 9, 1000);
        night("begun there: any ACT", d, 1, new int[] {4, 0, 2}, 0, 99, 1, 1, 4, 0, 2, 9, 1000);
        night("begun there: a left", d, 2, new int[] {4, 0, 2}, 0, 99, 1, 1, 4, 0, 1, 9, 1000);
        night("begun there: a match", d, 3, new int[] {4, 0, 2}, 0, 99, 1, 1, 4, 0, 2, 8, 1000);
        night("begun there: away, and no way back", d, 0, new int[] {4, 0, 3}, 0, 3, 0, 3, 1, 0, 3, 9, 1000);
        Check.due("the WALK stays", d.count(3), 0);
        Check.due("the WALK stays", d.odds(4, 0, 0), 1000000000);
        // harm at HOME is none
        Dark e = at("wide 2 2;home 1 0;harm 1000 1 0 1 0", "step 1000", "go");
        night("HOME ahead of harm", e, 0, new int[] {0, 0, 1}, 5, 9, 1, 1, 1, 0, 1, 9, 1000);
    }

    private static void neither() {
        Dark d = at("wide 5 3;home 4 2;wall 2 0 2 0", "step 1000", "go");
        night("two rounds", d, 0, new int[] {0, 1, 1}, 1, 2, 0, 2, 2, 1, 1, 9, 1000);
        night("a wall", d, 0, new int[] {0, 0, 1}, 1, 50, 0, 50, 1, 0, 1, 9, 1000);
        night("the end", d, 0, new int[] {0, 0, 0}, 1, 3, 0, 3, 0, 0, 0, 9, 1000);
    }

    private static void fallen() {
        Dark d = at("wide 5 2;home 4 0;harm 1000 2 0 2 0;harm 1000 0 1 0 1", "step 1000", "go", "sit", "left", "strike");
        night("harm", d, 0, new int[] {0, 0, 1}, 9, 99, 2, 2, 2, 0, 1, 9, 1000);
        night("harm where he stays", d, 0, new int[] {0, 1, 2}, 9, 99, 2, 1, 0, 1, 2, 9, 1000);
        night("no go, no fall", d, 1, new int[] {0, 1, 1}, 9, 99, 0, 99, 0, 1, 1, 9, 1000);
        night("no go, no fall", d, 2, new int[] {0, 1, 1}, 9, 9, 0, 9, 0, 1, 0, 9, 1000);
        night("no go, no fall", d, 3, new int[] {0, 1, 1}, 9, 9, 0, 9, 0, 1, 1, 0, 1000);
        // a draw for the go, one for the harm
        Dark e = at("wide 3 3;home 2 2;harm 300 0 0 2 2", "step 1000", "go");
        int fallen = 0;
        for (int seed = 0; seed < 300; seed++) {
            if (e.rest() < 9) {
                e = at("wide 3 3;home 2 2;harm 300 0 0 2 2", "step 1000", "go");
            }
            Draws.seed(seed * 1000003);
            Draws.draw(1000);
            boolean falls = Draws.draw(1000) < 300;
            fallen += falls ? 1 : 0;
            night("300 of 1000", e, 0, new int[] {0, 0, 1}, seed * 1000003, 1, falls ? 2 : 0, 1, 1, 0, 1, 9, 1000);
        }
        Check.due("some fell", fallen > 50 && fallen < 150, true);
    }

    private static void going() {
        // ahead, left, right or none of these; also where a wall is to the left
        for (int way = 0; way < 4; way++) {
            Dark d = at("wide 3 3;home 0 0;wall 0 1 0 1", "step 500;drift 100", "go");
            int[] counts = new int[4];
            for (int seed = 1; seed < 2000000000; seed += 4999999) {
                if (d.rest() < 9) {
                    d = at("wide 3 3;home 0 0;wall 0 1 0 1", "step 500;drift 100", "go");
                }
                Draws.seed(seed);
                int drawn = Draws.draw(1000);
                int which = drawn < 500 ? 0 : drawn < 600 ? 1 : drawn < 700 ? 2 : 3;
                counts[which]++;
                int to = (way + new int[] {0, 3, 1, 0}[which]) % 4;
                int toX = 1 + Model.DX[to];
                int toY = 1 + Model.DY[to];
                boolean stays = which == 3 || toX == 0;
                night("a go", d, 0, new int[] {1, 1, way}, seed, 1, 0, 1, stays ? 1 : toX, stays ? 1 : toY, stays ? way : to, 9);
            }
            for (int count : counts) {
                Check.due("each came", count > 20, true);
            }
        }
        // a, d of where he is truly, with EYES as they are ahead of the go
        Dark e = at("wide 12 2;home 0 1", "step 1000 if eyes<2;step 0;drift 0", "go");
        night("two steps", e, 0, new int[] {0, 0, 1}, 3, 9, 0, 9, 2, 0, 1, 9);
        Dark f = at("wide 12 2;home 0 1;ground 5 4 0 4 0", "step 0 if ground=5;step 1000;drift 0", "go");
        night("to the mire", f, 0, new int[] {0, 0, 1}, 3, 9, 0, 9, 4, 0, 1, 9);
        Dark g = at("wide 12 2;home 0 1", "step 0;drift 500", "go");
        Draws.seed(77);
        boolean left = Draws.draw(1000) < 500;
        night("aside surely", g, 0, new int[] {5, 0, 1}, 77, 1, 0, 1, 5, left ? 0 : 1, left ? 1 : 2, 9);
    }

    private static void turning() {
        Dark d = at("wide 3 3;home 2 2", "step 1000", "left", "right", "back", "sit", "left if 1=2",
                "right if steps=0;back if steps=1;left if steps=2;go if steps=3");
        int[] start = {0, 0, 1};
        night("left", d, 0, start, 3, 3, 0, 3, 0, 0, 2, 9, 1000);
        night("right", d, 1, start, 3, 3, 0, 3, 0, 0, 0, 9, 1000);
        night("back", d, 2, start, 3, 3, 0, 3, 0, 0, 3, 9, 1000);
        night("sit", d, 3, start, 3, 3, 0, 3, 0, 0, 1, 9, 1000);
        night("sit without", d, 4, start, 3, 3, 0, 3, 0, 0, 1, 9, 1000);
        // right: down; back: up; left: left; go: the end; then sit
        night("one behind the other", d, 5, start, 3, 9, 0, 9, 0, 0, 3, 9, 1000);
    }

    /** Which way he looks behind two rounds of sit, then of a left where the TEST holds: 0 begins, 3 is left. */
    private static int leftIf(String wood, String law, String test, int seed) {
        Dark d = at(wood, law, "left if " + test + ";sit");
        return d.night(0, 0, 0, 0, seed, 2, 4);
    }

    private static void feeling() {
        String wood = "wide 2 2;home 1 1;ground 6 0 0 0 0";
        Check.due("99 at first", leftIf(wood, "feel 1000", "steps=0 and ground=99 and sky=99 and loud=99 and path=99", 5), 3);
        Check.due("felt surely", leftIf(wood, "feel 1000", "ground=6", 5), 3);
        Check.due("nothing heard", leftIf(wood, "feel 1000", "steps=1 and loud=99", 5), 3);
        Check.due("no match", leftIf(wood, "feel 1000", "steps=1 and path=99", 5), 3);
        int wrongly = 0;
        for (int seed = 0; seed < 2000000000; seed += 39999999) {
            Draws.seed(seed);
            boolean rightly = Draws.draw(1000) < 500;
            int told = rightly ? 6 : (7 + Draws.draw(7)) % 8;
            wrongly += rightly ? 0 : 1;
            Check.due("felt, seed " + seed, leftIf(wood, "feel 500", "steps=1 and ground=" + told, seed), 3);
            Check.due("felt, seed " + seed, leftIf(wood, "feel 500", "steps=1 and not ground=" + told, seed), 0);
        }
        Check.due("some wrongly", wrongly > 10 && wrongly < 40, true);
    }

    private static void seeing() {
        String wood = "wide 2 2;home 1 1;sky 7 0 0 0 0";
        for (int seed = 0; seed < 2000000000; seed += 39999999) {
            Draws.seed(seed);
            Draws.draw(1000);
            // EYES 1 behind the sit: 100 of 1000
            boolean rightly = Draws.draw(1000) < 100;
            int told = rightly ? 7 : (8 + Draws.draw(9)) % 10;
            Check.due("seen, seed " + seed, leftIf(wood, "feel 1000", "steps=1 and sky=" + told, seed), 3);
        }
        // EYES 30: see as it is told; he sits 30 rounds long, and more than that the SIGNS of the last one count
        Dark d = at(wood, "feel 1000;see 1000", "left if steps=30 and sky=7;sit");
        for (int seed = 0; seed < 50; seed++) {
            night("seen surely", d, 0, new int[] {0, 0, 0}, seed, 31, 0, 31, 0, 0, 3);
        }
        // EYES 0 behind a match: 100 at least
        Dark e = at(wood, "feel 1000;see 1000", "strike if steps=0;left if sky=7;sit");
        for (int seed = 0; seed < 2000000000; seed += 99999999) {
            Draws.seed(seed);
            Draws.draw(1000);
            boolean rightly = Draws.draw(1000) < 100;
            int told = rightly ? 7 : (8 + Draws.draw(9)) % 10;
            night("seen behind a match", e, 0, new int[] {0, 0, 0}, seed, 2, 0, 2, 0, 0, told == 7 ? 3 : 0);
        }
    }

    private static void hearing() {
        String[] woods = {"wide 2 2;home 1 1;source 9 0 3;source 40 0 0", "wide 2 2;home 1 1;source 1 0 3",
            "wide 2 2;home 1 1;source 40 0 0"};
        int[] louds = {6, 0, 40};
        for (int i = 0; i < 3; i++) {
            for (int seed = 0; seed < 2000000000; seed += 39999999) {
                Draws.seed(seed);
                Draws.draw(1000);
                if (Draws.draw(1000) >= 100) {
                    Draws.draw(9);
                }
                int loud = louds[i];
                if (Draws.draw(1000) >= 300) {
                    loud = Draws.draw(2) == 0 ? Math.max(0, loud - 1) : Math.min(40, loud + 1);
                }
                Check.due("heard, seed " + seed, leftIf(woods[i], "feel 1000;hear 300", "steps=1 and loud=" + loud, seed), 3);
            }
        }
    }

    private static void striking() {
        Dark d = at("wide 3 2;home 2 1;path 0 0 0 0;ground 4 0 0 1 0", "feel 1000;step 1000", "strike", "strike if matches>=8;sit",
                "strike if steps=0;left if path=1;sit", "strike if steps=0;left if path=0;sit", "strike if steps=0;left if ground=99;sit",
                "strike;go");
        int[] start = {0, 0, 0};
        night("nine matches", d, 0, start, 3, 9, 0, 9, 0, 0, 0, 0, 1000);
        night("none more", d, 0, start, 3, 20, 0, 20, 0, 0, 0, 0, 1000);
        night("two of them", d, 1, start, 3, 20, 0, 20, 0, 0, 0, 7, 1000);
        night("shows the path", d, 2, start, 3, 2, 0, 2, 0, 0, 3, 8, 1000);
        night("shows the path", d, 3, start, 3, 2, 0, 2, 0, 0, 0, 8, 1000);
        night("shows no path", d, 2, new int[] {1, 0, 0}, 3, 2, 0, 2, 1, 0, 0, 8, 1000);
        night("shows no path", d, 3, new int[] {1, 0, 0}, 3, 2, 0, 2, 1, 0, 3, 8, 1000);
        // without a match: a sit, and EYES go on
        Dark e = at("wide 3 2;home 2 1", "feel 1000", "left if eyes=3 and steps=12;strike");
        night("EYES behind a match and sits", e, 0, start, 3, 13, 0, 13, 0, 0, 3, 0, 1000);
        // what a match shows is neither felt nor seen
        Dark f = at("wide 3 2;home 2 1;ground 4 0 0 0 0", "feel 0", "strike if steps=0;left if ground=4;sit");
        for (int seed = 0; seed < 40; seed++) {
            night("feels wrongly", f, 0, start, seed, 2, 0, 2, 0, 0, 0, 8, 1000);
        }
    }

    private static void refusedSigns() {
        // a match that is refused is a sit: he is truly where the odds have long lost him
        Dark d = at("wide 12 2;home 11 1;ground 1 1 0 11 0", "step 0;drift 0;feel 1000", "strike");
        night("as odds are", d, 0, new int[] {0, 0, 1}, 3, 2, 0, 2, 0, 0, 1, 7, 1000);
        // feel 0 tells a ground that he isn't on: all others stand, 142 each; feel 1000 never slips
        Dark e = at("wide 2 2;home 1 1;source 1 0 0", "hear 950;feel 1000", "left if loud=2;sit");
        int refused = 0;
        for (int seed = 0; seed < 2000000000; seed += 9999999) {
            if (e.rest() < 9) {
                e = at("wide 2 2;home 1 1;source 1 0 0", "hear 950;feel 1000", "left if loud=2;sit");
            }
            Draws.seed(seed);
            Draws.draw(1000);
            if (Draws.draw(1000) >= 100) {
                Draws.draw(9);
            }
            int loud = 1;
            if (Draws.draw(1000) >= 950) {
                loud = Draws.draw(2) == 0 ? 0 : 2;
            }
            refused += loud == 1 ? 0 : 1;
            night("heard", e, 0, new int[] {0, 0, 0}, seed, 2, 0, 2, 0, 0, loud == 2 ? 3 : 0);
        }
        Check.due("some slipped", refused > 2, true);
        // hear 997: (1000 - 997) by 4 is 0: one louder or less is refused, and loud stays 99
        Dark f = at("wide 2 2;home 1 1;source 5 0 0", "hear 997;feel 1000", "left if loud=99;sit");
        int slips = 0;
        for (int seed = 0; seed < 2000000000; seed += 999999) {
            Draws.seed(seed);
            Draws.draw(1000);
            if (Draws.draw(1000) >= 100) {
                Draws.draw(9);
            }
            boolean slipped = Draws.draw(1000) >= 997;
            if (slipped) {
                slips++;
                // left at first (99), and again at the second round, as nothing was heard
                night("heard nothing", f, 0, new int[] {0, 0, 0}, seed, 2, 0, 2, 0, 0, 2);
            }
        }
        Check.due("some slipped", slips > 0, true);
    }

    private static void wordsOfOdds() {
        String wood = "wide 4 2;home 3 0;path 0 0 0 0";
        String law = "step 500;drift 0;feel 1000";
        // one go: 500 at (0, 0), 500 at (1, 0), grounds and skies alike
        String[] holds = {"on=500", "sure=500", "at=0", "steps=1", "matches=9", "eyes=1", "on+sure=1000", "ground=0"};
        for (String test : holds) {
            Dark d = at(wood, law, "go if steps=0;left if " + test + ";sit", "go if steps=0;left if not " + test + ";sit");
            Check.due(test, d.night(0, 0, 0, 1, 8, 2, 4), 0);
            Check.due("not " + test, d.night(1, 0, 0, 1, 8, 2, 4), 1);
        }
        String[] first = {"on=1000", "sure=1000", "at=0", "steps=0", "matches=9", "eyes=0", "on>=1000 and sure>=1000"};
        for (String test : first) {
            Dark d = at(wood, law, "left if " + test + ";sit");
            Check.due("at first " + test, d.night(0, 0, 0, 1, 8, 1, 4), 0);
        }
        Dark e = at("wide 4 2;home 1 0", "step 500;drift 0;feel 1000", "go if steps=0;left if at=500;sit");
        boolean stays = false;
        for (int seed = 1; seed < 2000000000 && !stays; seed += 99999999) {
            Draws.seed(seed);
            stays = Draws.draw(1000) >= 500;
            if (stays) {
                Check.due("at", e.night(0, 0, 0, 1, seed, 2, 4), 0);
            }
        }
        Check.due("he stayed once", stays, true);
    }

    private static void own() {
        // his own SURE: 500, though he is truly at one of the two
        Dark d = at("wide 4 2;home 3 0", "step 500;drift 0;feel 1000", "go;sit");
        Check.due("his own SURE", d.night(0, 0, 0, 1, 8, 1, 6), 500);
        // a ground tells
        Dark e = at("wide 4 2;home 3 0;ground 2 1 0 1 0", "step 500;drift 0;feel 1000", "go;sit");
        Check.due("his own SURE", e.night(0, 0, 0, 1, 8, 1, 6), 1000);
        // at HOME, and where he fell, nothing is felt any more
        Dark f = at("wide 3 2;home 1 0;ground 2 1 0 1 0", "step 999;drift 0;feel 1000", "go");
        Draws.seed(8);
        Check.due("ahead", Draws.draw(1000) < 999, true);
        night("at HOME", f, 0, new int[] {0, 0, 1}, 8, 9, 1, 1, 1, 0, 1, 9, 999);
        Dark g = at("wide 3 2;home 2 0;ground 2 1 0 1 0;harm 1000 1 0 1 0", "step 999;drift 0;feel 1000", "go");
        night("fallen", g, 0, new int[] {0, 0, 1}, 8, 9, 2, 1, 1, 0, 1, 9, 999);
        // no limit of 200 ACTS: 99 rounds have 400
        Dark h = at("wide 2 2;home 1 1;source 3 0 0", "feel 1000;hear 1000", "left");
        night("99 rounds", h, 0, new int[] {0, 0, 0}, 8, 99, 0, 99, 0, 0, 1, 9, 1000);
    }

    private static void nights() {
        Dark d = at("wide 3 2;home 2 0;harm 200 1 0 1 0", "step 600;drift 0;feel 1000", "go", "sit");
        for (int seed = 0; seed < 2000000000; seed += 99999999) {
            if (d.rest() < 40) {
                d = at("wide 3 2;home 2 0;harm 200 1 0 1 0", "step 600;drift 0;feel 1000", "go", "sit");
            }
            Draws.seed(seed);
            int homes = 0;
            int falls = 0;
            int rounds = 0;
            for (int times = 1; times <= 9; times++) {
                int at = 0;
                int eyes = 0;
                for (int round = 1; round <= 5; round++) {
                    rounds++;
                    at += Draws.draw(1000) < 600 ? 1 : 0;
                    eyes++;
                    if (at == 2) {
                        homes++;
                        break;
                    }
                    if (Draws.draw(1000) < (at == 1 ? 200 : 0)) {
                        falls++;
                        break;
                    }
                    Draws.draw(1000);
                    if (Draws.draw(1000) >= Math.max(100, 800 * eyes / 30)) {
                        Draws.draw(9);
                    }
                }
                Check.due("homes, seed " + seed, d.nights(0, 0, 0, 1, seed, 5, times, 0), homes);
                Check.due("falls, seed " + seed, d.nights(0, 0, 0, 1, seed, 5, times, 1), falls);
                Check.due("rounds, seed " + seed, d.nights(0, 0, 0, 1, seed, 5, times, 2), rounds);
            }
        }
        Check.due("rounds of sits", d.nights(1, 0, 0, 1, 5, 99, 9, 2), 891);
    }

    private static void finest() {
        Dark d = at("wide 3 2;home 2 0;harm 1000 0 1 0 1", "step 1000");
        Check.due("no RULES", d.finest(0, 0, 1, 0, 9, 9), -2);
        Check.due("no RULES, and no such way", d.finest(0, 0, 4, 0, 9, 9), -1);
        Scene.text(d, 2, "right;go");
        Scene.text(d, 2, "right if steps=0;go");
        Check.due("the least of those alike", d.finest(0, 0, 1, 0, 9, 9), 0);
        Scene.text(d, 2, "sit");
        Check.due("the least of those alike", d.finest(0, 0, 1, 0, 9, 9), 0);
        Dark e = at("wide 3 2;home 2 0;harm 1000 0 1 0 1", "step 1000", "right if steps=0;go", "sit", "left");
        Check.due("the fewest FELL", e.finest(0, 0, 1, 0, 9, 9), 1);
        Scene.text(e, 2, "go");
        Check.due("the most HOME", e.finest(0, 0, 1, 0, 9, 9), 3);
        Scene.text(e, 2, "go if 1=1");
        Check.due("the least of those", e.finest(0, 0, 1, 0, 9, 1), 3);
        Check.due("too few rounds for any end", e.finest(0, 0, 1, 0, 1, 1), 0);
        // each RULE's NIGHTS from the same seed on
        Dark f = at("wide 4 2;home 3 0;harm 300 1 0 2 0", "step 700;drift 0;feel 900", "sit;go", "go", "go if 1=1", "go;sit");
        for (int seed = 0; seed < 100; seed++) {
            int homes = f.nights(1, 0, 0, 1, seed, 9, 5, 0);
            Check.due("alike from one seed", f.nights(2, 0, 0, 1, seed, 9, 5, 0), homes);
            Check.due("finest", f.finest(0, 0, 1, seed, 9, 5), homes > 0 ? 1 : 0);
        }
    }

    /** The last DRAW that is below, and the first that isn't. */
    private static void brinks() {
        Dark d = at("wide 3 3;home 0 0;harm 300 2 1 2 1", "step 500;drift 100", "go");
        int[] start = {1, 1, 0};
        night("499", d, 0, start, Draws.seedFor(499), 1, 0, 1, 1, 0, 0);
        night("500", d, 0, start, Draws.seedFor(500), 1, 0, 1, 0, 1, 3);
        night("599", d, 0, start, Draws.seedFor(599), 1, 0, 1, 0, 1, 3);
        night("600", d, 0, start, Draws.seedFor(600, 300), 1, 0, 1, 2, 1, 1);
        night("699", d, 0, start, Draws.seedFor(699, 300), 1, 0, 1, 2, 1, 1);
        night("700", d, 0, start, Draws.seedFor(700), 1, 0, 1, 1, 1, 0);
        night("harm 299", d, 0, start, Draws.seedFor(650, 299), 1, 2, 1, 2, 1, 1);
        night("harm 300", d, 0, start, Draws.seedFor(650, 300), 1, 0, 1, 2, 1, 1);
        Dark e = at("wide 2 2;home 1 1;source 9 0 0;ground 3 0 0 1 1;sky 3 0 0 1 1", "feel 600;see 900;hear 500",
                "left if ground=3 and steps=1;sit", "left if sky=3 and steps=1;sit", "left if loud=9 and steps=1;sit");
        int[] still = {0, 0, 0};
        night("felt 599", e, 0, still, Draws.seedFor(599), 2, 0, 2, 0, 0, 3);
        night("felt 600", e, 0, still, Draws.seedFor(600), 2, 0, 2, 0, 0, 0);
        night("seen 99", e, 1, still, Draws.seedFor(-600, 99), 2, 0, 2, 0, 0, 3);
        night("seen 100", e, 1, still, Draws.seedFor(-600, 100), 2, 0, 2, 0, 0, 0);
        night("heard 499", e, 2, still, Draws.seedFor(-600, -100, 499), 2, 0, 2, 0, 0, 3);
        night("heard 500", e, 2, still, Draws.seedFor(-600, -100, 500), 2, 0, 2, 0, 0, 0);
    }

    private static void wrong() {
        Dark d = at("wide 3 2;home 2 0;wall 1 1 1 1", "step 1000", "go");
        int[][] wrong = {{1, 0, 0, 0, 0, 1}, {-1, 0, 0, 0, 0, 1}, {0, 3, 0, 0, 0, 1}, {0, 0, 2, 0, 0, 1}, {0, -1, 0, 0, 0, 1},
            {0, 0, -1, 0, 0, 1}, {0, 1, 1, 0, 0, 1}, {0, 0, 0, 4, 0, 1}, {0, 0, 0, -1, 0, 1}, {0, 0, 0, 0, -1, 1}, {0, 0, 0, 0, 0, 0},
            {0, 0, 0, 0, 0, 100}, {0, 0, 0, 0, Integer.MIN_VALUE, 1}};
        for (int[] one : wrong) {
            Check.due("night without these", d.night(one[0], one[1], one[2], one[3], one[4], one[5], 1), -1);
            Check.due("nights without these", d.nights(one[0], one[1], one[2], one[3], one[4], one[5], 1, 2), -1);
            if (one[0] == 0) {
                Check.due("finest without these", d.finest(one[1], one[2], one[3], one[4], one[5], 1), -1);
            }
        }
        Check.due("night what 7", d.night(0, 0, 0, 0, 0, 1, 7), -1);
        Check.due("night what -1", d.night(0, 0, 0, 0, 0, 1, -1), -1);
        Check.due("nights what 3", d.nights(0, 0, 0, 0, 0, 1, 1, 3), -1);
        Check.due("nights what -1", d.nights(0, 0, 0, 0, 0, 1, 1, -1), -1);
        for (int times : new int[] {0, 10, -1, Integer.MAX_VALUE}) {
            Check.due("nights times", d.nights(0, 0, 0, 0, 0, 1, times, 2), -1);
            Check.due("finest times", d.finest(0, 0, 0, 0, 1, times), -1);
        }
        Dark e = new Dark();
        Scene.text(e, 0, "wide 3 2");
        Scene.text(e, 1, "see 1");
        Scene.text(e, 2, "go");
        Check.due("night without a WALK", e.night(0, 0, 0, 0, 0, 1, 1), -1);
        Check.due("nights without a WALK", e.nights(0, 0, 0, 0, 0, 1, 1, 2), -1);
        Check.due("finest without a WALK", e.finest(0, 0, 0, 0, 1, 1), -1);
        Check.due("finest without a WALK or RULES", new Dark().finest(0, 0, 0, 0, 1, 1), -1);
        // the NIGHT is in the WALK's WOOD by its LAW, wherever the WALK is
        Scene.text(d, 0, "wide 9 2;home 8 0");
        Scene.text(d, 1, "step 0;drift 0");
        Check.due("walk", d.walk(1, 0, 0, 0, 0), true);
        Check.due("the other WOOD", d.night(0, 5, 0, 1, 0, 99, 1), 3);
        Check.due("walk", d.walk(1, 1, 0, 0, 0), true);
        Check.due("the other LAW", d.night(0, 5, 0, 1, 0, 99, 1), 99);
    }
}
