/** Terms II and promises 7 to 14, sentence by sentence: the last that is taken, the first that is refused. */
public final class WalkBoundsTest {
    private static final int ALL = DarkWood.NONE;
    private static final int WHOLE = 1000000000;
    private static final int MIN = Integer.MIN_VALUE;
    private static final int MAX = Integer.MAX_VALUE;

    private WalkBoundsTest() {
    }

    public static void main(String[] args) {
        beginnings();
        ways();
        twoHundred();
        twoHundredOfOneKind();
        whatStepTells();
        eyesAsTheyAre();
        howFarAside();
        smallWeights();
        endsAndWalls();
        turns();
        stepsAndEyes();
        signsDownwards();
        refusedSigns();
        felt();
        seen();
        heard();
        matches();
        odds();
        sure();
        risk();
        walk();
        act();
        tellSigns();
        strike();
        askOdds();
        askAll();
        Check.finish();
    }

    private static void beginnings() {
        Check.sentence("A WALK in a WOOD by a LAW is begun at a CELL that is no wall, looking one way (0 up, 1 right, 2 down, 3 left):"
                + " WEIGHT 1000000000 there, that way; 0 elsewhere (a WEIGHT for each CELL and way). STEPS 0, MATCHES 9, EYES 0.");
        for (int side : new int[] {2, 12}) {
            Dark d = Scene.told("wide " + side + " " + side, "step 500");
            for (int corner = 0; corner < 4; corner++) {
                int x = corner % 2 * (side - 1);
                int y = corner / 2 * (side - 1);
                for (int way = 0; way < 4; way++) {
                    String when = "walk(0, 0, " + x + ", " + y + ", " + way + ")";
                    Check.due(when, d.walk(0, 0, x, y, way), true);
                    for (int other = 0; other < 4; other++) {
                        Check.due(when + ": way " + other, d.odds(x, y, other), other == way ? WHOLE : 0);
                        Check.due(when + ": all looking " + other, d.all(7 + other), other == way ? WHOLE : 0);
                    }
                    Check.due(when + ": together", d.all(6), WHOLE);
                    int[] due = {0, 0, 9, 0};
                    for (int i = 0; i < 4; i++) {
                        Check.due(when + ": count(" + (3 + i) + ")", d.count(3 + i), due[i]);
                    }
                }
            }
        }
        Dark e = Scene.at("wide 4 3;wall 1 1 2 1", "step 500", 3, 2, 2);
        for (int cell = 0; cell < 12; cell++) {
            for (int way = 0; way < 4; way++) {
                Check.due("a WEIGHT elsewhere", e.odds(cell % 4, cell / 4, way), cell == 11 && way == 2 ? WHOLE : 0);
            }
        }
        Check.due("at a wall", e.walk(0, 0, 1, 1, 2), false);
        Check.due("at the next one", e.walk(0, 0, 2, 1, 2), false);
        Check.due("beside them", e.walk(0, 0, 3, 1, 2), true);
    }

    private static void ways() {
        Check.sentence("looking one way (0 up, 1 right, 2 down, 3 left)");
        Dark d = Scene.told("wide 3 3", "step 1000;drift 0");
        for (int way = 0; way < 4; way++) {
            d.walk(0, 0, 1, 1, way);
            d.act(0);
            Check.due("a go, way " + way, d.odds(1 + Model.DX[way], 1 + Model.DY[way], way), WHOLE);
        }
    }

    /** An ACT, SIGN or match; all of these can stand in a WOOD of ground and sky 0 with a SOURCE of 5 at (0, 0). */
    private static int one(Dark d, int kind) {
        switch (kind) {
            case 5:
                return d.felt(0);
            case 6:
                return d.seen(0);
            case 7:
                return d.heard(0, 5);
            case 8:
                return d.strike(0, false);
            default:
                return d.act(kind);
        }
    }

    /** What can be seen of a WALK in a WOOD of two columns and rows. */
    private static long[] seenOf(Dark d) {
        long[] seen = new long[31];
        for (int what = 3; what <= 6; what++) {
            seen[what - 3] = d.count(what);
        }
        for (int what = 0; what <= 10; what++) {
            seen[4 + what] = d.all(what);
        }
        for (int i = 0; i < 16; i++) {
            seen[15 + i] = d.odds(i / 4 % 2, i / 8, i % 4);
        }
        return seen;
    }

    private static void same(String when, long[] got, long[] due) {
        for (int i = 0; i < due.length; i++) {
            Check.due(when + ": nothing happened: " + i, got[i], due[i]);
        }
    }

    private static void twoHundred() {
        Check.sentence("ACTS, 200 at most (SIGNS and MATCHES told, too, each is one):");
        for (int kind = 0; kind < 9; kind++) {
            Dark d = Scene.at("wide 2 2;source 5 0 0", "step 500;drift 100", 0, 0, 1);
            d.act(0);
            Scene.acts(d, 4, 198);
            Check.due("the 200th: " + kind, one(d, kind), kind == 8 ? 8 : 200);
            Check.due("ACTS", d.count(3), 200);
            long[] before = seenOf(d);
            for (int other = 0; other < 9; other++) {
                Check.due("the 201st: " + other, one(d, other), -1);
            }
            same("the 201st", seenOf(d), before);
            Check.due("another WALK", d.walk(0, 0, 0, 0, 1), true);
            Check.due("begins from 0 again", one(d, kind), kind == 8 ? 8 : 1);
        }
    }

    private static void twoHundredOfOneKind() {
        Check.sentence("ACTS, 200 at most (SIGNS and MATCHES told, too, each is one):");
        for (int kind = 0; kind < 8; kind++) {
            Dark d = Scene.at("wide 2 2;source 5 0 0", "step 500", 0, 0, 1);
            for (int i = 1; i <= 200; i++) {
                Check.due("of one kind " + kind, one(d, kind), i);
            }
            Check.due("the 201st of one kind " + kind, one(d, kind), -1);
            Check.due("ACTS", d.count(3), 200);
            Check.due("STEPS", d.count(4), kind < 5 ? 200 : 0);
        }
        // what is refused is no ACT, so that it takes nothing from the 200
        Dark d = Scene.at("wide 2 2;source 5 0 0", "feel 1000", 0, 0, 1);
        for (int i = 0; i < 30; i++) {
            Check.due("refused", d.felt(7), -1);
            Check.due("refused", d.strike(7, true), -1);
            Check.due("no such ACT", d.act(5), -1);
        }
        for (int i = 1; i <= 200; i++) {
            Check.due("taken", d.felt(0), i);
        }
        Check.due("the 201st", d.felt(0), -1);
    }

    /** How much of 1000 goes ahead from (0, 0) to the right, behind so many sits. */
    private static void ahead(String wood, String law, int sits, int due) {
        Dark d = Scene.at(wood, law, 0, 0, 1);
        Scene.acts(d, 4, sits);
        d.act(0);
        Check.due(law + " in " + wood + " behind " + sits, d.odds(1, 0, 1), due * 1000000);
        Check.due("all of it", d.all(6), WHOLE);
    }

    private static void whatStepTells() {
        Check.sentence("go: of each WEIGHT w at a CELL, way: a: what step tells of that CELL (the SUM of the first such CLAUSE without a TEST, or whose TEST holds; 900 without;"
                + " held to 0 to 1000; EYES as they are);");
        String plain = "wide 3 2";
        String[] sums = {"0", "1", "999", "1000", "1001", "99999", "0-1", "1-1", "0-99999", "999+1", "1000+1", "32768*65536*65536*65536",
            "32768*65536*65536*65536-1", "65536*65536", "65536*65536*65536*65536"};
        int[] due = {0, 1, 999, 1000, 1000, 1000, 0, 0, 0, 1000, 1000, 0, 1000, 1000, 0};
        for (int i = 0; i < sums.length; i++) {
            ahead(plain, "step " + sums[i] + ";drift 0", 0, due[i]);
        }
        ahead(plain, "drift 0", 0, 900);
        ahead(plain, "feel 1;see 1;hear 1;drift 500", 0, 900);
        ahead(plain, "step 1 if 1=2", 0, 900);
        ahead(plain, Scene.many("step 1 if 1=2", 12), 0, 900);
        ahead(plain, Scene.many("step 1 if 1=2", 11) + ";step 2", 0, 2);
        ahead(plain, "step 1;step 2", 0, 1);
        ahead(plain, "step 1;step 2 if 1=1", 0, 1);
        ahead(plain, "step 1 if 1=1;step 2", 0, 1);
        ahead(plain, "step 1 if 1=2;step 2;step 3", 0, 2);
        ahead(plain, "step 1 if 1=2;step 2 if 1=1;step 3", 0, 2);
        ahead(plain, "step 1 if 1=2;step 2 if 1=2;step 3 if 1=1;step 4", 0, 3);
        // of that CELL, not of another one: both are told of where the WEIGHT is
        Dark d = Scene.at("wide 4 2;path 0 0 0 0;ground 7 1 0 1 0;sky 9 2 0 2 0;harm 1000 0 0 0 0",
                "step 1000 if path=1 and harm=1000 and ground=0;step 250 if ground=7 and harm=0;step 0;drift 0", 0, 0, 1);
        d.act(0);
        Check.due("of the first CELL", d.odds(1, 0, 1), WHOLE);
        d.act(0);
        Check.due("of the second one", d.odds(2, 0, 1), 250000000);
        d.act(0);
        Check.due("of the second one", d.odds(2, 0, 1), 250000000 + 187500000);
        Check.due("of the third one", d.odds(3, 0, 1), 0);
    }

    private static void eyesAsTheyAre() {
        Check.sentence("900 without; held to 0 to 1000; EYES as they are);");
        int[] sits = {0, 1, 2, 28, 29, 30, 31, 60};
        int[] due = {0, 1, 2, 28, 29, 30, 30, 30};
        for (int i = 0; i < sits.length; i++) {
            ahead("wide 3 2", "step eyes;drift 0", sits[i], due[i]);
            ahead("wide 3 2", "step 7 if eyes=" + due[i] + ";step 8;drift 0", sits[i], 7);
        }
        Dark d = Scene.at("wide 3 2", "step eyes*10;drift 0", 0, 0, 1);
        Scene.acts(d, 4, 5);
        d.strike(0, false);
        d.felt(0);
        d.act(0);
        Check.due("behind a match", d.odds(1, 0, ALL), 0);
        d.act(0);
        Check.due("and a step behind it", d.odds(1, 0, ALL), 10000000);
    }

    private static void aside(int step, int drift, int due) {
        Dark d = Scene.at("wide 3 3", "step " + step + (drift < 0 ? "" : ";drift " + drift), 1, 1, 0);
        d.act(0);
        String when = "step " + step + ", drift " + drift;
        Check.due(when + ": left", d.odds(0, 1, 3), due * 1000000);
        Check.due(when + ": right", d.odds(2, 1, 1), due * 1000000);
        Check.due(when + ": ahead", d.odds(1, 0, 0), step * 1000000);
        Check.due(when + ": the rest", d.odds(1, 1, 0), (1000 - step - 2 * due) * 1000000);
    }

    private static void howFarAside() {
        Check.sentence("d: drift, but at most (1000 less a) by 2, downwards.");
        int[][] due = {{1000, 500, 0}, {999, 500, 0}, {998, 500, 1}, {997, 500, 1}, {996, 500, 2}, {1000, 1, 0}, {999, 1, 0}, {998, 1, 1},
            {0, 500, 500}, {1, 500, 499}, {2, 500, 499}, {0, 499, 499}, {0, 0, 0}, {500, 250, 250}, {500, 251, 250}, {501, 250, 249},
            {499, 250, 250}, {960, -1, 20}, {961, -1, 19}, {959, -1, 20}, {0, -1, 20}, {1000, -1, 0}};
        for (int[] one : due) {
            aside(one[0], one[1], one[2]);
        }
    }

    /** WEIGHTS of 1 and 2, three steps to the right of (0, 1), looking right. */
    private static Dark tiny(int weight, String law) {
        Dark d = Scene.at("wide 5 3", "step " + weight + " if eyes=0;step 1 if eyes<3;" + law, 0, 1, 1);
        Scene.acts(d, 0, 3);
        Check.due("a WEIGHT of " + weight, d.odds(3, 1, 1), weight);
        return d;
    }

    private static void smallWeights() {
        Check.sentence("w * a by 1000, downwards, goes on ahead; w * d by 1000, downwards, goes to the left, and looks that way then;"
                + " as much to the right; the rest stays.");
        int[][] goesOn = {{1, 999, 0}, {1, 1000, 1}, {2, 499, 0}, {2, 500, 1}, {2, 999, 1}, {2, 1000, 2}, {3, 333, 0}, {3, 334, 1},
            {3, 666, 1}, {3, 667, 2}};
        for (int[] one : goesOn) {
            Dark d = tiny(one[0], "step " + one[1] + ";drift 0");
            d.act(0);
            Check.due("ahead, " + one[0] + " by step " + one[1], d.odds(4, 1, 1), one[2]);
            Check.due("all of it", d.all(6), WHOLE);
        }
        int[][] goesAside = {{1, 500, 0}, {2, 499, 0}, {2, 500, 1}, {3, 333, 0}, {3, 334, 1}, {3, 500, 1}, {4, 499, 1}, {4, 500, 2}};
        for (int[] one : goesAside) {
            // the drift of the first steps leaves (3, 1) as it is, as nothing comes back to it
            Dark d = tiny(one[0], "step 0;drift " + one[1]);
            d.act(0);
            String when = one[0] + " by drift " + one[1];
            Check.due("to the left, " + when, d.odds(3, 0, 0), one[2]);
            Check.due("to the right, " + when, d.odds(3, 2, 2), one[2]);
            Check.due("the rest, " + when, d.odds(3, 1, 1), one[0] - 2 * one[2]);
            Check.due("all of it", d.all(6), WHOLE);
        }
    }

    /** What is due at each CELL and way behind one go, by step 600 and drift 150. */
    private static void goIn(String wood, int columns, int rows, int walls, int x, int y, int way) {
        Dark d = Scene.at(wood, "step 600;drift 150", x, y, way);
        d.act(0);
        int[][][] due = new int[columns][rows][4];
        int[] parts = {600, 150, 150, 100};
        int[] turned = {0, 3, 1, 0};
        for (int i = 0; i < 4; i++) {
            int to = (way + turned[i]) % 4;
            int toX = x + Model.DX[to];
            int toY = y + Model.DY[to];
            boolean out = toX < 0 || toY < 0 || toX >= columns || toY >= rows;
            boolean wall = !out && (walls >> toY * columns + toX & 1) == 1;
            if (i == 3 || out || wall) {
                due[x][y][way] += parts[i] * 1000000;
            } else {
                due[toX][toY][to] += parts[i] * 1000000;
            }
        }
        for (int i = 0; i < columns * rows * 4; i++) {
            int atX = i / 4 % columns;
            int atY = i / 4 / columns;
            Check.due(wood + ": go from " + x + ", " + y + ", way " + way + ": odds(" + atX + ", " + atY + ", " + i % 4 + ")",
                    d.odds(atX, atY, i % 4), due[atX][atY][i % 4]);
        }
    }

    private static void endsAndWalls() {
        Check.sentence("What would come to a wall, or out of the WOOD, stays where it is (looking as it did).");
        for (int way = 0; way < 4; way++) {
            for (int cell = 0; cell < 9; cell++) {
                goIn("wide 3 3", 3, 3, 0, cell % 3, cell / 3, way);
            }
            for (int cell = 0; cell < 4; cell++) {
                goIn("wide 2 2;wall 2 0 11 11;wall 0 2 11 11", 2, 2, 0, cell % 2, cell / 2, way);
            }
            // one wall at each side of (1, 1), two across from one another, all four
            goIn("wide 3 3;wall 1 0 1 0", 3, 3, 1 << 1, 1, 1, way);
            goIn("wide 3 3;wall 2 1 2 1", 3, 3, 1 << 5, 1, 1, way);
            goIn("wide 3 3;wall 1 2 1 2", 3, 3, 1 << 7, 1, 1, way);
            goIn("wide 3 3;wall 0 1 0 1", 3, 3, 1 << 3, 1, 1, way);
            goIn("wide 3 3;wall 0 1 0 1;wall 2 1 2 1", 3, 3, 1 << 3 | 1 << 5, 1, 1, way);
            goIn("wide 3 3;wall 0 0 2 2;home 1 1", 3, 3, 0x1ef, 1, 1, way);
        }
        // the edges of the widest WOOD: no row goes over into the next one
        int[][] edges = {{0, 5, 3}, {11, 5, 1}, {5, 0, 0}, {5, 11, 2}, {0, 0, 0}, {0, 0, 3}, {11, 11, 1}, {11, 11, 2}, {11, 0, 1}, {0, 11, 3}};
        for (int[] one : edges) {
            Dark d = Scene.at("home 1 1", "step 1000;drift 0", one[0], one[1], one[2]);
            d.act(0);
            Check.due("at the edge", d.odds(one[0], one[1], one[2]), WHOLE);
        }
    }

    private static void turns() {
        Check.sentence("left, right, back: all look that way then.");
        int[] quarters = {0, 3, 1, 2};
        for (int act = 1; act <= 3; act++) {
            // four WEIGHTS at one CELL, one for each way: 400, 100 and 100 aside, 400 back at the place it came from
            for (int way = 0; way < 4; way++) {
                Dark d = Scene.at("wide 3 3", "step 500;drift 100", 1, 1, way);
                d.act(0);
                int[] before = new int[36];
                for (int i = 0; i < 36; i++) {
                    before[i] = d.odds(i / 4 % 3, i / 12, i % 4);
                }
                Check.due("turn", d.act(act), 2);
                for (int i = 0; i < 36; i++) {
                    int turned = i / 4 * 4 + (i % 4 + quarters[act]) % 4;
                    Check.due("act(" + act + ") of way " + i % 4, d.odds(i / 4 % 3, i / 12, turned % 4), before[i]);
                }
            }
            Dark d = Scene.at("wide 2 2", "step 500", 1, 0, 3);
            for (int times = 1; times <= 8; times++) {
                d.act(act);
                Check.due("act(" + act + "), " + times + " times", d.odds(1, 0, (3 + quarters[act] * times) % 4), WHOLE);
            }
        }
        Check.sentence("sit: nothing.");
        Dark d = Scene.at("wide 2 2", "step 500;drift 100", 0, 0, 1);
        d.act(0);
        long[] before = seenOf(d);
        d.act(4);
        long[] behind = seenOf(d);
        for (int i = 4; i < before.length; i++) {
            Check.due("a sit: " + i, behind[i], before[i]);
        }
    }

    private static void stepsAndEyes() {
        Check.sentence("Behind each of these STEPS are 1 more, EYES too (30 at most).");
        for (int act = 0; act <= 4; act++) {
            Dark d = Scene.at("wide 2 2", "step 500", 0, 0, 0);
            for (int i = 1; i <= 33; i++) {
                Check.due("STEPS by act(" + act + ")", d.act(act), i);
                Check.due("STEPS", d.count(4), i);
                Check.due("EYES", d.count(6), Math.min(30, i));
            }
        }
        Dark d = Scene.at("wide 2 2;source 1 0 0", "step 500", 0, 0, 0);
        Scene.acts(d, 4, 29);
        d.felt(0);
        d.seen(0);
        d.heard(0, 1);
        Check.due("SIGNS are no steps", d.count(4), 29);
        Check.due("EYES behind SIGNS", d.count(6), 29);
        d.act(4);
        d.act(4);
        Check.due("STEPS", d.count(4), 31);
        Check.due("EYES", d.count(6), 30);
    }

    /** Half at (0, 0), half at (1, 0), looking right, in a WOOD of two columns, with so many EYES (also 0). */
    private static Dark halves(String clauses, String law, int eyes) {
        Dark d = Scene.at("wide 2 2" + clauses, "step 500;drift 0" + law, 0, 0, 1);
        d.act(0);
        if (eyes == 0) {
            // a match that shows both CELLS
            Check.due("strike", d.strike(0, false), 8);
        } else {
            Scene.acts(d, 4, eyes - 1);
        }
        return d;
    }

    /** Two halves become so many and so many thousandths of themselves, and then 1000000000 together. */
    private static void become(String when, Dark d, int left, int right) {
        long first = 500000000L * left / 1000;
        long second = 500000000L * right / 1000;
        Check.due(when + ": " + left, d.odds(0, 0, 1), first * WHOLE / (first + second));
        Check.due(when + ": " + right, d.odds(1, 0, 1), second * WHOLE / (first + second));
    }

    private static void signsDownwards() {
        Check.sentence("SIGNS: each WEIGHT becomes WEIGHT times its chance by 1000, downwards; then, S being all together,"
                + " each times 1000000000 by S, downwards.");
        // 1, 999, 999000, 999000000 for the first three columns, and the fourth: all ground 0 but one
        for (int feel = 990; feel <= 1000; feel++) {
            Dark d = Scene.at("wide 4 2;ground 7 3 0 3 0", "step 1;drift 0;feel " + feel, 0, 0, 1);
            Scene.acts(d, 0, 3);
            long[] weights = new long[4];
            long sum = 0;
            for (int x = 0; x < 4; x++) {
                weights[x] = d.odds(x, 0, 1) * (long) (x == 3 ? feel : (1000 - feel) / 7) / 1000;
                sum += weights[x];
            }
            Check.due("felt, feel " + feel, d.felt(7), sum == 0 ? -1 : 4);
            for (int x = 0; x < 4 && sum > 0; x++) {
                Check.due("WEIGHT, feel " + feel, d.odds(x, 0, 1), weights[x] * WHOLE / sum);
            }
        }
        // three WEIGHTS of one third each are 333333333 together, and never more than S
        Dark d = Scene.at("wide 3 3;ground 5 1 1 1 1", "step 400;drift 300;feel 0", 1, 2, 0);
        d.act(0);
        Check.due("felt", d.felt(5), 2);
        Check.due("the others", d.all(6), d.odds(0, 2, 3) + d.odds(2, 2, 1));
        Check.due("half", d.odds(0, 2, 3), 500000000);
        Check.due("0 stays 0", d.odds(1, 1, 0), 0);
    }

    private static void refusedSigns() {
        Check.sentence("A SIGN with S 0 is refused.");
        // a WEIGHT of 1, times 999 by 1000, is 0: S is 0; times 1000 it is 1, and that is enough
        Dark d = Scene.at("wide 4 2;ground 7 3 0 3 0", "step 1;drift 0;feel 999", 0, 0, 1);
        Scene.acts(d, 0, 3);
        Check.due("WEIGHT", d.odds(3, 0, 1), 1);
        int before = d.odds(2, 0, 1);
        Check.due("felt, feel 999", d.felt(7), -1);
        Check.due("ACTS", d.count(3), 3);
        Check.due("as it was", d.odds(3, 0, 1), 1);
        Check.due("as it was", d.odds(2, 0, 1), before);
        Dark e = Scene.at("wide 4 2;ground 7 3 0 3 0", "step 1;drift 0;feel 1000", 0, 0, 1);
        Scene.acts(e, 0, 3);
        Check.due("felt, feel 1000", e.felt(7), 4);
        Check.due("all of it", e.odds(3, 0, 1), WHOLE);
        Check.due("behind it all else is refused", e.felt(0), -1);
        // each kind: where nothing tells it
        String wood = ";ground 1 0 0 0 0;sky 1 0 0 0 0;source 9 0 0";
        Dark f = halves(wood, ";feel 1000;see 1000;hear 1000", 30);
        long[] was = seenOf(f);
        Check.due("felt", f.felt(2), -1);
        Check.due("seen", f.seen(2), -1);
        Check.due("heard", f.heard(0, 10), -1);
        Check.due("strike", f.strike(1, true), -1);
        Check.due("strike", f.strike(2, false), -1);
        same("refused", seenOf(f), was);
        Check.due("felt", f.felt(1), 31);
        Check.due("now seen elsewhere is refused", f.seen(0), -1);
        Check.due("heard elsewhere is refused", f.heard(0, 8), -1);
        Check.due("and taken here", f.seen(1), 32);
        Check.due("and taken here", f.heard(0, 9), 33);
    }

    private static void felt() {
        Check.sentence("felt g: feel where the ground is g, else (1000 less feel) by 7, downwards.");
        int[][] due = {{0, 142}, {1, 142}, {6, 142}, {7, 141}, {13, 141}, {14, 140}, {500, 71}, {986, 2}, {987, 1}, {993, 1}, {994, 0},
            {999, 0}, {1000, 0}};
        for (int[] one : due) {
            for (int ground = 0; ground < 8; ground += 7) {
                Dark d = halves(";ground " + ground + " 0 0 0 0;ground 3 1 0 1 0", ";feel " + one[0], 1);
                Check.due("felt", d.felt(ground), 2);
                become("felt " + ground + ", feel " + one[0], d, one[0], one[1]);
            }
        }
        Dark without = halves(";ground 1 0 0 0 0", "", 1);
        Check.due("felt", without.felt(1), 2);
        become("felt without", without, 800, 28);
    }

    private static void seen(String law, int eyes, int due) {
        for (int sky = 0; sky < 10; sky += 9) {
            Dark d = halves(";sky " + sky + " 0 0 0 0;sky 5 1 0 1 0", law, eyes);
            Check.due("seen" + law + ", EYES " + eyes, d.seen(sky) > 0, true);
            become("seen " + sky + law + ", EYES " + eyes, d, due, (1000 - due) / 9);
        }
    }

    private static void seen() {
        Check.sentence("seen s: e: see * EYES by 30, downwards, 100 at least: e where the sky is s, else (1000 less e) by 9, downwards.");
        int[][] due = {{1000, 0, 100}, {1000, 1, 100}, {1000, 2, 100}, {1000, 3, 100}, {1000, 4, 133}, {1000, 5, 166}, {1000, 15, 500},
            {1000, 29, 966}, {1000, 30, 1000}, {1000, 31, 1000}, {1000, 40, 1000}, {0, 30, 100}, {99, 30, 100}, {100, 30, 100},
            {101, 30, 101}, {991, 30, 991}, {992, 30, 992}, {982, 30, 982}, {983, 30, 983}, {104, 29, 100}, {105, 29, 101}};
        for (int[] one : due) {
            seen(";see " + one[0], one[1], one[2]);
        }
        seen("", 30, 800);
        seen("", 3, 100);
        seen("", 4, 106);
    }

    private static void heardBy(int hear, int loud, int told, int left, int right) {
        // LOUD at (0, 0), one less at (1, 0), 0 at least
        Dark d = halves(";source " + loud + " 0 0", ";hear " + hear, 1);
        boolean refused = left + right == 0;
        String when = "heard " + told + " where it is " + loud + " and one less, hear " + hear;
        Check.due(when, d.heard(0, told), refused ? -1 : 2);
        if (refused) {
            become(when, d, 1000, 1000);
        } else {
            become(when, d, left, right);
        }
    }

    private static void heard() {
        Check.sentence("heard n (0 to 40) of a SOURCE: hear where it is so LOUD, (1000 less hear) by 4, downwards, where it is louder or"
                + " less by 1, else (1000 less hear) by 80, downwards.");
        int[][] chances = {{0, 250, 12}, {1, 249, 12}, {40, 240, 12}, {41, 239, 11}, {500, 125, 6}, {920, 20, 1}, {921, 19, 0}, {996, 1, 0},
            {997, 0, 0}, {1000, 0, 0}};
        for (int[] one : chances) {
            int same = one[0];
            int beside = one[1];
            int other = one[2];
            for (int loud : new int[] {3, 20, 40}) {
                heardBy(same, loud, loud, same, beside);
                heardBy(same, loud, loud - 1, beside, same);
                heardBy(same, loud, loud - 2, other, beside);
                heardBy(same, loud, loud - 3, other, other);
                if (loud < 39) {
                    heardBy(same, loud, loud + 1, beside, other);
                    heardBy(same, loud, loud + 2, other, other);
                }
            }
            // LOUD 1 and 0: the least there is
            heardBy(same, 1, 0, beside, same);
            heardBy(same, 1, 1, same, beside);
            heardBy(same, 1, 2, beside, other);
            heardBy(same, 1, 40, other, other);
            heardBy(same, 40, 0, other, other);
        }
        // LOUD 0 at both, from far off; and of another SOURCE than the first
        Dark d = halves(";source 1 11 11;source 8 1 0", ";hear 400", 1);
        Check.due("heard 0 of the first", d.heard(0, 0), 2);
        become("0 and 0", d, 400, 400);
        Check.due("heard 8 of the second", d.heard(1, 8), 3);
        become("7 and 8", d, 150, 400);
    }

    private static void matches() {
        Check.sentence("A match that is struck (while there is one) shows a ground and whether there is a path: WEIGHTS where it is otherwise"
                + " become 0, the others as with a SIGN (refused with S 0, and there stays a match); STEPS are 1 more, MATCHES 1 less, EYES 0.");
        String four = "wide 2 2;ground 7 0 0 0 1;path 0 0 1 0";
        // a quarter at each CELL: ground 7 with a path, 0 with one, 7 without, 0 without
        int[][] shows = {{7, 1, 0, 0}, {0, 1, 1, 0}, {7, 0, 0, 1}, {0, 0, 1, 1}};
        for (int[] one : shows) {
            Dark d = Scene.at(four, "step 500;drift 0", 0, 0, 1);
            d.act(0);
            d.act(2);
            d.act(0);
            for (int x = 0; x < 4; x++) {
                Check.due("a quarter", d.odds(x % 2, x / 2, ALL), 250000000);
            }
            Check.due("strike", d.strike(one[0], one[1] == 1), 8);
            Check.due("all of it where it is so", d.odds(one[2], one[3], 2), WHOLE);
            Check.due("all together", d.all(6), WHOLE);
            Check.due("STEPS", d.count(4), 4);
            Check.due("MATCHES", d.count(5), 8);
            Check.due("EYES", d.count(6), 0);
            Check.due("ACTS", d.count(3), 4);
            long[] before = seenOf(d);
            Check.due("the other ground", d.strike(7 - one[0], one[1] == 1), -1);
            Check.due("the other path", d.strike(one[0], one[1] == 0), -1);
            Check.due("a third ground", d.strike(3, one[1] == 1), -1);
            same("refused", seenOf(d), before);
        }
        // what is shown everywhere changes no WEIGHT, be it 1 or 999000000
        Dark all = Scene.at("wide 4 2", "step 1;drift 0", 0, 0, 1);
        Scene.acts(all, 0, 3);
        long[] small = {all.odds(0, 0, 1), all.odds(1, 0, 1), all.odds(2, 0, 1), all.odds(3, 0, 1)};
        Check.due("a WEIGHT of 1", small[3], 1);
        Check.due("strike", all.strike(0, false), 8);
        for (int x = 0; x < 4; x++) {
            Check.due("as it was", all.odds(x, 0, 1), small[x]);
        }
        Dark d = Scene.at("wide 2 2", "step 500", 0, 0, 0);
        for (int left = 8; left >= 0; left--) {
            d.act(4);
            Check.due("refused", d.strike(1, false), -1);
            Check.due("MATCHES", d.count(5), left + 1);
            Check.due("EYES", d.count(6), 1);
            Check.due("strike", d.strike(0, false), left);
            Check.due("EYES", d.count(6), 0);
        }
        d.act(4);
        long[] before = seenOf(d);
        Check.due("the tenth", d.strike(0, false), -1);
        Check.due("the tenth, refused in any case", d.strike(1, true), -1);
        same("no match", seenOf(d), before);
        Check.due("STEPS", d.count(4), 19);
        Check.due("another WALK has nine", d.walk(0, 0, 0, 0, 0), true);
        Check.due("strike", d.strike(0, false), 8);
    }

    private static void odds() {
        Check.sentence("ODDS of a CELL: its WEIGHTS together. ON: of all CELLS with a path, AT: of HOME;");
        Dark d = Scene.at("wide 3 3;home 1 1;path 1 0 1 0;path 0 1 0 1", "step 400;drift 200", 1, 1, 0);
        Check.due("AT", d.all(1), WHOLE);
        Check.due("ON", d.all(0), 0);
        d.act(0);
        d.act(3);
        d.act(0);
        // each WEIGHT of each CELL
        for (int cell = 0; cell < 9; cell++) {
            int sum = 0;
            for (int way = 0; way < 4; way++) {
                sum += d.odds(cell % 3, cell / 3, way);
            }
            Check.due("ODDS", d.odds(cell % 3, cell / 3, ALL), sum);
        }
        Check.due("ON", d.all(0), d.odds(1, 0, ALL) + d.odds(0, 1, ALL));
        Check.due("AT", d.all(1), d.odds(1, 1, ALL));
        // 80 from the left, 80 from the right, 160 from above and 40 that stay: three ways of one CELL
        Check.due("AT", d.all(1), 80000000 + 80000000 + 200000000);
        // no path at all; nothing but path
        Dark e = Scene.at("wide 2 2;home 1 1", "step 500", 0, 0, 1);
        Check.due("ON without a path", e.all(0), 0);
        Check.due("AT elsewhere", e.all(1), 0);
        Dark f = Scene.at("path 0 0 11 11;home 11 11", "step 500", 11, 11, 1);
        f.act(0);
        Check.due("ON with nothing else", f.all(0), WHOLE);
        Check.due("AT in the corner", f.all(1), 980000000);
    }

    /** Alike at two CELLS: x, y of the first. */
    private static void first(int x, int y, int way, int step, int drift, int dueX, int dueY) {
        Dark d = Scene.at("wide 3 3", "step " + step + ";drift " + drift, x, y, way);
        d.act(0);
        Check.due("x of SURE", d.all(3), dueX);
        Check.due("y of SURE", d.all(4), dueY);
        Check.due("SURE", d.all(2), d.odds(dueX, dueY, ALL));
    }

    private static void sure() {
        Check.sentence("SURE: of the CELL with the most, of several the first (rows from above, each from the left).");
        first(1, 1, 0, 500, 0, 1, 0);
        first(1, 1, 1, 500, 0, 1, 1);
        first(1, 1, 2, 500, 0, 1, 1);
        first(1, 1, 3, 500, 0, 0, 1);
        first(1, 1, 0, 0, 500, 0, 1);
        first(1, 1, 1, 0, 500, 1, 0);
        // ahead, left and right alike: the one above; the leftmost of a row; 334 are more than 333
        first(1, 1, 1, 334, 333, 2, 1);
        first(1, 1, 2, 250, 250, 0, 1);
        first(1, 1, 0, 250, 250, 1, 0);
        first(1, 1, 1, 501, 0, 2, 1);
        first(2, 2, 1, 1000, 0, 2, 2);
        Check.sentence("on, at, sure: these by 1000000, downwards.");
        // 999999999 is 999: seen by what a RULE does, and by LEFT
        Dark d = Scene.at("wide 3 2;path 0 0 2 1;ground 1 0 0 0 0", "step 500;drift 0", 0, 0, 1);
        d.act(0);
        d.act(0);
        d.strike(0, true);
        Check.due("ON", d.all(0), 999999999);
        Check.due("on is 999", d.left(1000), 2);
        Check.due("on is 999", d.left(999), -2);
    }

    private static void risk() {
        Check.sentence("RISK: of each CELL ODDS times harm by 1000, downwards, together.");
        for (int harm : new int[] {0, 1, 7, 500, 999, 1000}) {
            Dark d = Scene.at("wide 3 3;ground 1 1 0 1 2;harm " + harm + " 0 0 2 2", "step 417;drift 131;feel 633", 1, 1, 0);
            long perWeight = 0;
            long perCell = 0;
            long together = 0;
            for (int i = 0; i < 4; i++) {
                d.act(0);
                d.felt(i % 2);
                d.act(i % 3 + 1);
            }
            for (int cell = 0; cell < 9; cell++) {
                long odds = d.odds(cell % 3, cell / 3, ALL);
                perCell += odds * harm / 1000;
                together += odds;
                for (int way = 0; way < 4; way++) {
                    perWeight += (long) d.odds(cell % 3, cell / 3, way) * harm / 1000;
                }
            }
            Check.due("RISK by harm " + harm, d.all(5), perCell);
            if (harm == 7 || harm == 999) {
                Check.due("which is not of each WEIGHT", perWeight != perCell, true);
                Check.due("nor of all together", together * harm / 1000 != perCell, true);
            }
        }
        Dark d = Scene.at("wide 2 2;harm 1000 0 0 1 1", "step 500", 0, 0, 1);
        Check.due("all of it", d.all(5), WHOLE);
        Dark e = Scene.at("wide 2 2;harm 1000 1 0 1 1", "step 500", 0, 0, 1);
        Check.due("none of it", e.all(5), 0);
    }

    private static void walk() {
        Check.sentence("A WALK is begun in place of one there was: true; false, and nothing happens, without these.");
        Dark d = Scene.told("wide 2 2;source 5 0 0", "step 500;drift 100");
        Check.due("a second WOOD", Scene.text(d, 0, "wide 12 11;wall 5 5 5 5;home 11 10"), 1);
        Check.due("a second LAW", Scene.text(d, 1, "step 0;drift 0"), 1);
        int[][] wrong = {{-1, 0, 0, 0, 0}, {2, 0, 0, 0, 0}, {MIN, 0, 0, 0, 0}, {MAX, 0, 0, 0, 0}, {0, -1, 0, 0, 0}, {0, 2, 0, 0, 0},
            {0, MIN, 0, 0, 0}, {0, MAX, 0, 0, 0}, {0, 0, -1, 0, 0}, {0, 0, 2, 0, 0}, {1, 0, 12, 0, 0}, {0, 0, MIN, 0, 0}, {0, 0, MAX, 0, 0},
            {0, 0, 0, -1, 0}, {0, 0, 0, 2, 0}, {1, 0, 0, 11, 0}, {0, 0, 0, MIN, 0}, {0, 0, 0, MAX, 0}, {0, 0, 0, 0, -1}, {0, 0, 0, 0, 4},
            {0, 0, 0, 0, MIN}, {0, 0, 0, 0, MAX}, {1, 0, 5, 5, 0}, {1, 1, 11, 11, 3}, {1, 1, 12, 10, 3}};
        for (int[] one : wrong) {
            Check.due("walk without these", d.walk(one[0], one[1], one[2], one[3], one[4]), false);
        }
        Check.due("there is none", d.count(3), -1);
        Check.due("walk", d.walk(0, 0, 0, 0, 1), true);
        d.act(0);
        d.act(0);
        long[] before = seenOf(d);
        for (int[] one : wrong) {
            Check.due("walk without these", d.walk(one[0], one[1], one[2], one[3], one[4]), false);
        }
        same("false", seenOf(d), before);
        d.act(0);
        Check.due("by the LAW as before", d.odds(1, 1, ALL) > 0, true);
        int[][] right = {{0, 0, 0, 0, 0}, {0, 0, 1, 1, 3}, {1, 0, 11, 10, 0}, {1, 1, 0, 0, 3}, {1, 1, 5, 4, 0}, {0, 1, 1, 0, 0}};
        for (int[] one : right) {
            Check.due("walk with these", d.walk(one[0], one[1], one[2], one[3], one[4]), true);
            Check.due("in place of the other", d.count(3), 0);
            Check.due("STEPS", d.count(4), 0);
            Check.due("all of it", d.odds(one[2], one[3], one[4]), WHOLE);
            Check.due("all together", d.all(6), WHOLE);
            Check.due("act", d.act(4), 1);
            Check.due("in its WOOD", d.odds(2, 0, ALL), one[0] == 0 ? -1 : 0);
        }
    }

    private static void act() {
        Check.sentence("An ACT, 0: go, 1: left, 2: right, 3: back, 4: sit: STEPS; NONE, and nothing happens, without these (no WALK, too),"
                + " or if there are 200.");
        Dark d = Scene.told("wide 2 2;source 5 0 0", "step 500");
        for (int act = -1; act <= 5; act++) {
            Check.due("act(" + act + ") without a WALK", d.act(act), -1);
        }
        Check.due("there is none", d.count(3), -1);
        d.walk(0, 0, 0, 0, 1);
        d.act(0);
        long[] before = seenOf(d);
        for (int act : new int[] {-1, 5, 6, 7, 8, 9, -2, MIN, MAX}) {
            Check.due("act(" + act + ")", d.act(act), -1);
        }
        same("no such ACT", seenOf(d), before);
        for (int act = 0; act <= 4; act++) {
            Check.due("act(" + act + ")", d.act(act), act + 2);
        }
        d.strike(0, false);
        Check.due("STEPS, a match is one", d.act(4), 8);
        d.felt(0);
        Check.due("STEPS, not ACTS", d.act(4), 9);
        Check.due("ACTS", d.count(3), 10);
    }

    private static void tellSigns() {
        Check.sentence("felt (0 to 7): how many ACTS there are; NONE, and nothing happens, without these, if there are 200, or it is refused.");
        Dark d = Scene.told("wide 2 2;source 5 0 0;source 6 1 1;source 40 0 0", "step 500;drift 100");
        Check.due("felt without a WALK", d.felt(0), -1);
        Check.due("seen without a WALK", d.seen(0), -1);
        Check.due("heard without a WALK", d.heard(0, 5), -1);
        d.walk(0, 0, 0, 0, 1);
        d.act(0);
        long[] before = seenOf(d);
        for (int one : new int[] {-1, 8, 9, MIN, MAX}) {
            Check.due("felt(" + one + ")", d.felt(one), -1);
        }
        same("no such ground", seenOf(d), before);
        Check.due("felt(0)", d.felt(0), 2);
        Check.due("felt(7)", d.felt(7), 3);
        Check.sentence("seen (0 to 9), as felt.");
        before = seenOf(d);
        for (int one : new int[] {-1, 10, 11, MIN, MAX}) {
            Check.due("seen(" + one + ")", d.seen(one), -1);
        }
        same("no such sky", seenOf(d), before);
        Check.due("seen(0)", d.seen(0), 4);
        Check.due("seen(9)", d.seen(9), 5);
        Check.sentence("heard (0 to 40) of a SOURCE, as felt.");
        before = seenOf(d);
        int[][] wrong = {{-1, 0}, {3, 0}, {4, 0}, {MIN, 0}, {MAX, 0}, {0, -1}, {0, 41}, {2, 41}, {0, MIN}, {0, MAX}};
        for (int[] one : wrong) {
            Check.due("heard(" + one[0] + ", " + one[1] + ")", d.heard(one[0], one[1]), -1);
        }
        same("not to be heard", seenOf(d), before);
        Check.due("heard(0, 0)", d.heard(0, 0), 6);
        Check.due("heard(0, 40)", d.heard(0, 40), 7);
        Check.due("heard(2, 40)", d.heard(2, 40), 8);
        Check.due("heard(1, 0)", d.heard(1, 0), 9);
        // as many SOURCES as can be, and none
        Dark e = Scene.at("wide 2 2" + ";source 7 0 0".repeat(4), "step 500", 0, 0, 0);
        Check.due("heard of the last", e.heard(3, 7), 1);
        Check.due("heard of a fifth", e.heard(4, 7), -1);
        Dark f = Scene.at("wide 2 2", "step 500", 0, 0, 0);
        Check.due("heard without a SOURCE", f.heard(0, 0), -1);
        Check.due("ACTS", f.count(3), 0);
    }

    private static void strike() {
        Check.sentence("A match is struck and shows a ground (0 to 7), and whether there is a path: MATCHES that are left; NONE, and nothing"
                + " happens, without these, if there are 200 ACTS, without a match, or if it is refused.");
        Dark d = Scene.told("wide 2 2;ground 7 1 0 1 1;path 1 0 1 1", "step 500;drift 0");
        Check.due("strike without a WALK", d.strike(0, false), -1);
        d.walk(0, 0, 0, 0, 1);
        d.act(0);
        long[] before = seenOf(d);
        for (int ground : new int[] {-1, 8, MIN, MAX}) {
            Check.due("strike(" + ground + ", false)", d.strike(ground, false), -1);
            Check.due("strike(" + ground + ", true)", d.strike(ground, true), -1);
        }
        same("no such ground", seenOf(d), before);
        Check.due("refused", d.strike(0, true), -1);
        Check.due("refused", d.strike(7, false), -1);
        Check.due("refused", d.strike(1, false), -1);
        same("refused", seenOf(d), before);
        Check.due("ground 7, a path", d.strike(7, true), 8);
        d.walk(0, 0, 0, 0, 1);
        d.act(0);
        Check.due("ground 0, no path", d.strike(0, false), 8);
    }

    private static void askOdds() {
        Check.sentence("WEIGHT of a CELL, way (NONE: all ways: its ODDS); NONE without these.");
        Dark d = Scene.told("wide 3 2;wall 1 1 1 1", "step 500");
        Check.due("odds without a WALK", d.odds(0, 0, ALL), -1);
        Check.due("odds without a WALK", d.odds(0, 0, 0), -1);
        d.walk(0, 0, 2, 1, 3);
        int[][] wrong = {{-1, 0, 0}, {3, 0, 0}, {0, -1, 0}, {0, 2, 0}, {0, 0, -2}, {0, 0, 4}, {MIN, 0, 0}, {MAX, 0, 0}, {0, MIN, 0},
            {0, MAX, 0}, {0, 0, MIN}, {0, 0, MAX}, {-1, 1, ALL}, {3, 0, ALL}, {11, 11, ALL}, {12, 0, ALL}};
        for (int[] one : wrong) {
            Check.due("odds without these", d.odds(one[0], one[1], one[2]), -1);
        }
        Check.due("the last CELL, way", d.odds(2, 1, 3), WHOLE);
        Check.due("all ways", d.odds(2, 1, ALL), WHOLE);
        Check.due("the first CELL, way", d.odds(0, 0, 0), 0);
        Check.due("a wall has a WEIGHT, too: 0", d.odds(1, 1, 3), 0);
        Check.due("all ways of a wall", d.odds(1, 1, ALL), 0);
        Dark e = Scene.at("home 1 1", "step 500", 11, 11, 0);
        Check.due("the last of all", e.odds(11, 11, 0), WHOLE);
        Check.due("none behind it", e.odds(12, 11, 0), -1);
        Check.due("none below it", e.odds(11, 12, 0), -1);
    }

    private static void askAll() {
        Check.sentence("What 0: ON, 1: AT, 2: SURE, 3, 4: x, y of that CELL, 5: RISK, 6: all WEIGHTS together, 7 to 10: those that look up,"
                + " right, down, left. NONE without these.");
        Dark d = Scene.told("wide 5 4;home 4 3;path 4 3 4 3;harm 9 4 3 4 3", "step 500");
        for (int what = -1; what <= 11; what++) {
            Check.due("all(" + what + ") without a WALK", d.all(what), -1);
        }
        d.walk(0, 0, 4, 3, 3);
        int[] due = {WHOLE, WHOLE, WHOLE, 4, 3, 9000000, WHOLE, 0, 0, 0, WHOLE};
        for (int what = 0; what <= 10; what++) {
            Check.due("all(" + what + ")", d.all(what), due[what]);
        }
        for (int what : new int[] {-1, 11, 12, -2, MIN, MAX}) {
            Check.due("all(" + what + ")", d.all(what), -1);
        }
        // 999999999 together: what was lost downwards stays lost
        Dark e = Scene.at("wide 3 2;ground 1 0 0 0 0", "step 500;drift 0", 0, 0, 1);
        e.act(0);
        e.act(0);
        e.strike(0, false);
        Check.due("all WEIGHTS together", e.all(6), 999999999);
        Check.due("those that look right", e.all(8), 999999999);
        e.act(1);
        Check.due("those that look up", e.all(7), 999999999);
        Check.due("those that look right", e.all(8), 0);
    }
}
