/** Promises 7 to 14: a WALK, its ACTS, SIGNS and matches, and the odds, reckoned by hand. */
public final class WalkTest {
    private static final int ALL = DarkWood.NONE;

    private WalkTest() {
    }

    public static void main(String[] args) {
        beginning();
        going();
        wallsAndEnds();
        turning();
        lawsOfSteps();
        driftsAndRests();
        countsAndLimits();
        feeling();
        seeing();
        hearing();
        striking();
        refusals();
        totals();
        corners();
        Check.finish();
    }

    /** Four WEIGHTS of a CELL, up, right, down, left. */
    private static void weights(String when, Dark d, int x, int y, int up, int right, int down, int left) {
        int[] due = {up, right, down, left};
        for (int way = 0; way < 4; way++) {
            Check.due(when + ": odds(" + x + ", " + y + ", " + way + ")", d.odds(x, y, way), due[way]);
        }
        Check.due(when + ": odds(" + x + ", " + y + ", NONE)", d.odds(x, y, ALL), up + right + down + left);
    }

    private static void beginning() {
        Dark d = Scene.at("wide 3 4;wall 1 1 1 1;home 2 3", "step 500", 0, 3, 2);
        weights("at first", d, 0, 3, 0, 0, 1000000000, 0);
        weights("at first", d, 0, 2, 0, 0, 0, 0);
        int[][] wrong = {{1, 0, 0, 0, 0}, {-1, 0, 0, 0, 0}, {0, 1, 0, 0, 0}, {0, -1, 0, 0, 0}, {0, 0, 3, 0, 0}, {0, 0, 0, 4, 0},
            {0, 0, -1, 0, 0}, {0, 0, 0, -1, 0}, {0, 0, 1, 1, 0}, {0, 0, 0, 0, 4}, {0, 0, 0, 0, -1}};
        d.act(0);
        for (int[] one : wrong) {
            Check.due("walk without these", d.walk(one[0], one[1], one[2], one[3], one[4]), false);
        }
        Check.due("nothing happened", d.count(3), 1);
        Check.due("in place of the other", d.walk(0, 0, 2, 3, 1), true);
        Check.due("ACTS", d.count(3), 0);
        Check.due("STEPS", d.count(4), 0);
        Check.due("MATCHES", d.count(5), 9);
        Check.due("EYES", d.count(6), 0);
        weights("again", d, 2, 3, 0, 1000000000, 0, 0);
        weights("again", d, 0, 3, 0, 0, 0, 0);
        int[][] none = {{3, 0, 0}, {0, 4, 0}, {-1, 0, 0}, {0, -1, 0}, {0, 0, 4}, {0, 0, -2}};
        for (int[] one : none) {
            Check.due("odds without these", d.odds(one[0], one[1], one[2]), -1);
        }
        Check.due("odds of a wall", d.odds(1, 1, ALL), 0);
    }

    private static void going() {
        Dark d = Scene.at("wide 3 3;home 2 2", "step 500;drift 100", 1, 1, 0);
        Check.due("go", d.act(0), 1);
        weights("one go", d, 1, 0, 500000000, 0, 0, 0);
        weights("one go", d, 0, 1, 0, 0, 0, 100000000);
        weights("one go", d, 2, 1, 0, 100000000, 0, 0);
        weights("one go", d, 1, 1, 300000000, 0, 0, 0);
        Check.due("go", d.act(0), 2);
        weights("two", d, 1, 0, 550000000, 0, 0, 0);
        weights("two", d, 1, 1, 90000000, 0, 0, 0);
        weights("two", d, 0, 0, 10000000, 0, 0, 50000000);
        weights("two", d, 2, 0, 10000000, 50000000, 0, 0);
        weights("two", d, 0, 1, 0, 0, 0, 110000000);
        weights("two", d, 2, 1, 0, 110000000, 0, 0);
        weights("two", d, 0, 2, 0, 0, 10000000, 0);
        weights("two", d, 2, 2, 0, 0, 10000000, 0);
        weights("two", d, 1, 2, 0, 0, 0, 0);
        for (int way = 1; way < 4; way++) {
            Check.due("walk", d.walk(0, 0, 1, 1, way), true);
            d.act(0);
            int left = (way + 3) % 4;
            int right = (way + 1) % 4;
            int[] x = {1, 2, 1, 0};
            int[] y = {0, 1, 2, 1};
            Check.due("ahead", d.odds(x[way], y[way], way), 500000000);
            Check.due("left", d.odds(x[left], y[left], left), 100000000);
            Check.due("right", d.odds(x[right], y[right], right), 100000000);
            Check.due("stays", d.odds(1, 1, way), 300000000);
        }
    }

    private static void wallsAndEnds() {
        // a wall ahead, the end to the left: both stay, looking as they did
        Dark d = Scene.at("wide 3 3;wall 0 0 0 0;home 2 2", "step 600;drift 150", 0, 1, 0);
        d.act(0);
        weights("a wall", d, 0, 1, 850000000, 0, 0, 0);
        weights("a wall", d, 1, 1, 0, 150000000, 0, 0);
        weights("a wall", d, 0, 0, 0, 0, 0, 0);
        // beyond the WOOD there is nothing, also where no wall was told
        Dark e = Scene.at("wide 2 2", "step 1000", 1, 1, 1);
        e.act(0);
        weights("the end", e, 1, 1, 0, 1000000000, 0, 0);
        e.act(2);
        e.act(0);
        weights("the end", e, 1, 1, 0, 0, 1000000000, 0);
        // a wall beyond the WOOD is none of it
        Dark f = Scene.at("wide 2 2;wall 2 0 2 0", "step 1000", 0, 0, 1);
        f.act(0);
        weights("inside", f, 1, 0, 0, 1000000000, 0, 0);
        // HOME is no end of a WALK
        Dark g = Scene.at("wide 3 2;home 1 0", "step 1000", 0, 0, 1);
        g.act(0);
        g.act(0);
        weights("behind HOME", g, 2, 0, 0, 1000000000, 0, 0);
    }

    private static void turning() {
        Dark d = Scene.at("wide 3 3", "step 500;drift 100", 1, 1, 1);
        d.act(0);
        Check.due("left", d.act(1), 2);
        weights("left", d, 1, 1, 300000000, 0, 0, 0);
        weights("left", d, 2, 1, 500000000, 0, 0, 0);
        weights("left", d, 1, 0, 0, 0, 0, 100000000);
        weights("left", d, 1, 2, 0, 100000000, 0, 0);
        Check.due("right", d.act(2), 3);
        weights("right", d, 2, 1, 0, 500000000, 0, 0);
        weights("right", d, 1, 0, 100000000, 0, 0, 0);
        Check.due("back", d.act(3), 4);
        weights("back", d, 2, 1, 0, 0, 0, 500000000);
        weights("back", d, 1, 2, 100000000, 0, 0, 0);
        Check.due("sit", d.act(4), 5);
        weights("sit", d, 2, 1, 0, 0, 0, 500000000);
        Check.due("EYES", d.count(6), 5);
        Check.due("ACTS", d.count(3), 5);
    }

    private static void ahead(String law, String wood, int eyes, int due) {
        Dark d = Scene.at(wood, law, 0, 0, 1);
        for (int i = 0; i < eyes; i++) {
            d.act(4);
        }
        d.act(0);
        Check.due(law + " in " + wood + " with EYES " + eyes, d.odds(1, 0, 1), due * 1000000);
    }

    private static void lawsOfSteps() {
        String plain = "wide 3 2";
        ahead("drift 0", plain, 0, 900);
        ahead("step 700;step 600", plain, 0, 700);
        ahead("step 1001", plain, 0, 1000);
        ahead("step 99999*99999", plain, 0, 1000);
        ahead("step 0-1", plain, 0, 0);
        ahead("step 100 if path=1;step 200 if path=0", plain, 0, 200);
        ahead("step 100 if path=1;step 200 if path=0", "wide 3 2;path 0 0 0 0", 0, 100);
        ahead("step 100 if path=1", plain, 0, 900);
        ahead("step 10*ground+sky+harm", "wide 3 2;ground 7 0 0 0 0;sky 9 0 0 0 0;harm 300 0 0 0 0", 0, 379);
        ahead("step eyes", plain, 0, 0);
        ahead("step eyes", plain, 29, 29);
        ahead("step eyes", plain, 33, 30);
        ahead("step 500 if eyes>=3;step 100", plain, 2, 100);
        ahead("step 500 if eyes>=3;step 100", plain, 3, 500);
        // SUMS: from the left, * and / ahead of + and -, / towards 0, 0 by 0
        ahead("step 2+3*4", plain, 0, 14);
        ahead("step 20-3-4", plain, 0, 13);
        ahead("step 100/7*7", plain, 0, 98);
        ahead("step 100*7/9/2", plain, 0, 38);
        ahead("step 50+100/0", plain, 0, 50);
        ahead("step 50+100/eyes", plain, 0, 50);
        ahead("step 50+0*7/0", plain, 0, 50);
        ahead("step 5 if path-7/2=0-3;step 6", plain, 0, 5);
        // a TERM is below 0 by going round alone; a third of -2 to the 63rd, three times, is above it by 2
        ahead("step 5 if 32768*65536*65536*65536/3*3<0;step 6", plain, 0, 5);
        // 2 to the 64th is 0: all goes round
        ahead("step 77 if 65536*65536*65536*65536=0;step 6", plain, 0, 77);
        ahead("step 77 if 32768*65536*65536*65536<0;step 6", plain, 0, 77);
        ahead("step 65536*65536*65536*65536+8", plain, 0, 8);
        String[] holds = {"1<2", "1<=1", "1<=2", "1=1", "1>=1", "2>=1", "2>1", "not 2<1", "not not 1=1", "[1=1]", "1=1 or 1=2",
            "1=2 or 1=1", "1=1 and 2=2", "1=2 and 1=2 or 1=1", "1=1 or 1=2 and 1=2", "not [1=1 and 1=2]", "[1=2 or 1=1]and 3=3",
            "not 1=2 and 1=1", "1=2 or 1=2 or 1=1", "1=2 or 1=1 or 1=2", "1=1 or 1=2 or 1=2", "1=2 or 3+4=7", "1=1 and 2*3+4-1=9",
            "1=2 or 1=2 and 1=1 or 1=1", "1=1 or not 1=1 and 1=2", "0-1<0", "not[1=2 or 2=3]"};
        for (String test : holds) {
            ahead("step 5 if " + test + ";step 6", plain, 0, 5);
        }
        String[] fails = {"2<1", "1<1", "2<=1", "1=2", "1>=2", "1>1", "1>2", "not 1=1", "not not 1=2", "[1=2]", "1=1 and 1=2",
            "1=2 or 2=1", "[1=1 or 1=2] and 1=2", "not [1=1 or 1=2]", "not 1=2 and 1=2", "1=2 or 1=2 or 1=2", "1=2 or 3+4=8", "1=1 and 1=1 and 1=2", "0-1>0", "not 1=1 or 1=2"};
        for (String test : fails) {
            ahead("step 5 if " + test + ";step 6", plain, 0, 6);
        }
    }

    private static void aside(String law, int due) {
        Dark d = Scene.at("wide 3 3", law, 1, 1, 0);
        d.act(0);
        Check.due(law, d.odds(0, 1, 3), due);
        Check.due(law, d.odds(2, 1, 1), due);
    }

    private static void driftsAndRests() {
        aside("step 500", 20000000);
        aside("step 970", 15000000);
        aside("step 971", 14000000);
        aside("step 1000;drift 500", 0);
        aside("step 851;drift 500", 74000000);
        aside("step 0;drift 500", 500000000);
        aside("step 0;drift 499", 499000000);
        aside("drift 500", 50000000);
        // each by 1000 downwards, what is left over stays
        Dark d = Scene.at("wide 12 2", "step 333;drift 0", 0, 0, 1);
        for (int i = 0; i < 5; i++) {
            d.act(0);
        }
        long[] weight = {1000000000, 0, 0, 0, 0, 0};
        for (int i = 0; i < 5; i++) {
            for (int x = 5; x >= 0; x--) {
                long on = weight[x] * 333 / 1000;
                weight[x] -= on;
                if (x < 5) {
                    weight[x + 1] += on;
                }
            }
        }
        long together = 0;
        for (int x = 0; x < 5; x++) {
            Check.due("rests at " + x, d.odds(x, 0, 1), weight[x]);
            together += weight[x];
        }
        Check.due("rests at 5", d.odds(5, 0, 1), 1000000000 - together);
        Check.due("all of it", d.all(6), 1000000000);
    }

    private static void countsAndLimits() {
        Dark d = Scene.at("wide 2 2;source 5 0 0", "step 500", 0, 0, 0);
        for (int i = 1; i <= 31; i++) {
            Check.due("sit", d.act(4), i);
            Check.due("EYES", d.count(6), Math.min(30, i));
        }
        Check.due("strike", d.strike(0, false), 8);
        Check.due("EYES behind a match", d.count(6), 0);
        Check.due("STEPS behind a match", d.count(4), 32);
        Check.due("MATCHES", d.count(5), 8);
        Check.due("felt", d.felt(0), 33);
        Check.due("seen", d.seen(0), 34);
        Check.due("heard", d.heard(0, 5), 35);
        Check.due("STEPS behind SIGNS", d.count(4), 32);
        Check.due("EYES behind SIGNS", d.count(6), 0);
        for (int i = 36; i <= 200; i++) {
            Check.due("ACTS", d.felt(0), i);
        }
        Check.due("the 201st", d.act(0), -1);
        Check.due("the 201st", d.felt(0), -1);
        Check.due("the 201st", d.seen(0), -1);
        Check.due("the 201st", d.heard(0, 5), -1);
        Check.due("the 201st", d.strike(0, false), -1);
        Check.due("ACTS", d.count(3), 200);
        Check.due("MATCHES", d.count(5), 8);
        Check.due("walk", d.walk(0, 0, 0, 0, 0), true);
        Check.due("go", d.act(0), 1);
    }

    /** Half at (0, 0), half at (1, 0), looking right; EYES 1. */
    private static Dark halves(String clauses, String law) {
        Dark d = Scene.at("wide 2 2" + clauses, "step 500;drift 0" + law, 0, 0, 1);
        d.act(0);
        return d;
    }

    private static void two(String when, Dark d, long left, long right) {
        long sum = left + right;
        Check.due(when, d.odds(0, 0, 1), left * 1000000000 / sum);
        Check.due(when, d.odds(1, 0, 1), right * 1000000000 / sum);
    }

    private static void feeling() {
        Dark d = halves(";ground 3 0 0 0 1", ";feel 800");
        Check.due("felt", d.felt(3), 2);
        Check.due("felt", d.odds(0, 0, 1), 966183574);
        Check.due("felt", d.odds(1, 0, 1), 33816425);
        Check.due("all together", d.all(6), 999999999);
        Dark e = halves(";ground 3 0 0 0 1", "");
        Check.due("felt, 800 without", e.felt(0), 2);
        two("felt", e, 500000000L * 28 / 1000, 400000000);
        for (int feel = 790; feel < 810; feel++) {
            Dark one = halves(";ground 3 0 0 0 1", ";feel " + feel);
            Check.due("felt", one.felt(3), 2);
            two("feel " + feel, one, feel, (1000 - feel) / 7);
        }
        Dark up = Scene.at("wide 2 2;ground 1 0 0 0 0", "step 500;drift 0", 0, 1, 0);
        up.act(0);
        up.felt(1);
        Check.due("looking up, in the corner", up.odds(0, 0, 0), 966183574);
        Dark f = halves(";ground 7 0 0 0 1", ";feel 1000");
        Check.due("felt", f.felt(7), 2);
        two("surely", f, 1, 0);
        Check.due("refused", f.felt(0), -1);
        Check.due("ACTS", f.count(3), 2);
        two("as it was", f, 1, 0);
        Dark g = halves(";ground 7 0 0 0 1", ";feel 0");
        Check.due("felt", g.felt(7), 2);
        two("not there", g, 0, 1);
        Check.due("refused", g.felt(0), -1);
        Check.due("felt", g.felt(5), 3);
        two("no telling", g, 0, 1);
        Check.due("felt 8", g.felt(8), -1);
        Check.due("felt -1", g.felt(-1), -1);
        Check.due("ACTS", g.count(3), 3);
    }

    private static void seeing() {
        // EYES 1: 800 by 30 is 26, 100 at least; else 900 by 9
        Dark d = halves(";sky 4 0 0 0 0", "");
        Check.due("seen", d.seen(4), 2);
        two("seen with EYES 1", d, 100, 100);
        for (int i = 0; i < 14; i++) {
            d.act(4);
        }
        Check.due("seen", d.seen(4), 17);
        two("seen with EYES 15", d, 400, 66);
        Dark e = halves(";sky 9 0 0 0 0", ";see 1000");
        for (int i = 0; i < 3; i++) {
            e.act(4);
        }
        Check.due("seen", e.seen(0), 5);
        two("seen with EYES 4: 133, 96", e, 96, 133);
        for (int i = 0; i < 40; i++) {
            e.act(4);
        }
        Check.due("seen", e.seen(9), 46);
        two("seen with EYES 30", e, 1, 0);
        Check.due("refused", e.seen(3), -1);
        Dark wide = halves(";sky 4 0 0 0 0", ";see 0");
        Check.due("seen 10", wide.seen(10), -1);
        Check.due("seen -1", wide.seen(-1), -1);
        Check.due("ACTS", wide.count(3), 1);
        for (int i = 0; i < 40; i++) {
            wide.act(4);
        }
        Dark plain = halves(";sky 4 0 0 0 0", "");
        for (int i = 0; i < 40; i++) {
            plain.act(4);
        }
        Check.due("seen", plain.seen(4), 42);
        two("800 without", plain, 800, 22);
        Check.due("seen 10", e.seen(10), -1);
        Check.due("seen -1", e.seen(-1), -1);
        Check.due("ACTS", e.count(3), 46);
        Dark f = halves(";sky 4 0 0 0 0", ";see 0");
        for (int i = 0; i < 40; i++) {
            f.act(4);
        }
        Check.due("seen", f.seen(4), 42);
        two("100 at least", f, 100, 100);
        Dark g = halves(";sky 4 0 0 0 0", ";see 119");
        for (int i = 0; i < 29; i++) {
            g.act(4);
        }
        Check.due("seen", g.seen(4), 31);
        two("119, 97", g, 119, 97);
    }

    private static void hearing() {
        // LOUD 5 at (0, 0), 4 at (1, 0), of the other SOURCE 0 and 0
        String sources = ";source 5 0 0;source 1 11 11";
        Dark d = halves(sources, ";hear 600");
        Check.due("heard", d.heard(0, 5), 2);
        two("600, 100", d, 600, 100);
        Dark e = halves(sources, ";hear 600");
        Check.due("heard", e.heard(0, 3), 2);
        two("5, 100", e, 5, 100);
        Dark f = halves(sources, "");
        Check.due("heard", f.heard(0, 6), 2);
        two("50, 2", f, 50, 2);
        Dark g = halves(sources, ";hear 922");
        Check.due("far off, 0 everywhere", g.heard(0, 40), -1);
        Check.due("by 1", g.heard(0, 6), 2);
        two("19, 0", g, 19, 0);
        Check.due("heard of the second", g.heard(1, 0), 3);
        two("as it was", g, 1, 0);
        Check.due("1 beside 0", g.heard(1, 1), 4);
        Check.due("heard of a third", g.heard(2, 0), -1);
        Check.due("heard of -1", g.heard(-1, 0), -1);
        Check.due("heard 41", g.heard(0, 41), -1);
        Check.due("heard -1", g.heard(0, -1), -1);
        Check.due("ACTS", g.count(3), 4);
        Dark h = halves(";source 40 0 0", ";hear 920");
        Check.due("40", h.heard(0, 40), 2);
        two("920, 20", h, 920, 20);
        Check.due("0", h.heard(0, 0), 3);
        Dark i = halves("", "");
        Check.due("no SOURCE", i.heard(0, 0), -1);
        Dark j = halves(";source 40 0 0", ";hear 100");
        Check.due("heard 41", j.heard(0, 41), -1);
        Check.due("heard -1", j.heard(0, -1), -1);
        Check.due("heard of the next", j.heard(1, 40), -1);
        Check.due("ACTS", j.count(3), 1);
        Check.due("heard 38", j.heard(0, 38), 2);
        two("11, 225", j, 11, 225);
        Dark k = halves(";source 40 0 0", "");
        Check.due("heard 40", k.heard(0, 40), 2);
        two("800 without, 50", k, 800, 50);
        Dark l = halves(";source 40 0 0", ";hear 40");
        Check.due("heard 38", l.heard(0, 38), 2);
        two("12, 240", l, 12, 240);
        Dark m = halves(";source 40 0 0", ";hear 41");
        Check.due("heard 38", m.heard(0, 38), 2);
        two("11, 239", m, 11, 239);
    }

    private static void striking() {
        Dark d = halves(";ground 3 0 0 0 0;path 1 0 1 0", "");
        d.act(4);
        Check.due("refused: path", d.strike(3, true), -1);
        Check.due("refused: ground", d.strike(0, false), -1);
        Check.due("MATCHES stay", d.count(5), 9);
        Check.due("EYES stay", d.count(6), 2);
        Check.due("STEPS stay", d.count(4), 2);
        Check.due("ACTS stay", d.count(3), 2);
        Check.due("ground 8", d.strike(8, false), -1);
        Check.due("ground -1", d.strike(-1, false), -1);
        Check.due("strike", d.strike(3, false), 8);
        two("shown", d, 1, 0);
        Check.due("EYES", d.count(6), 0);
        Check.due("STEPS", d.count(4), 3);
        Check.due("ACTS", d.count(3), 3);
        for (int left = 7; left >= 0; left--) {
            Check.due("strike", d.strike(3, false), left);
        }
        Check.due("no match", d.strike(3, false), -1);
        Check.due("ACTS", d.count(3), 11);
        Dark e = halves(";path 1 0 1 0", "");
        Check.due("strike", e.strike(0, true), 8);
        two("shown", e, 0, 1);
        // the least there can be is enough
        Dark least = Scene.at("wide 4 2;ground 7 3 0 3 0;path 3 0 3 0", "step 1;drift 0", 0, 0, 1);
        for (int i = 0; i < 3; i++) {
            least.act(0);
        }
        Check.due("one of 1000000000", least.odds(3, 0, 1), 1);
        Check.due("no such ground", least.strike(8, true), -1);
        Check.due("shown", least.strike(7, true), 8);
        Check.due("and he is there", least.odds(3, 0, 1), 1000000000);
        // thirds, downwards: what is lost stays lost
        Dark f = Scene.at("wide 3 2;ground 1 0 0 0 0", "step 500;drift 0", 0, 0, 1);
        f.act(0);
        f.act(0);
        Check.due("strike", f.strike(0, false), 8);
        Check.due("two thirds", f.odds(1, 0, ALL), 666666666);
        Check.due("one third", f.odds(2, 0, ALL), 333333333);
        Check.due("together", f.all(6), 999999999);
    }

    private static void refusals() {
        Dark d = new Dark();
        Check.due("act without a WALK", d.act(0), -1);
        Check.due("felt without a WALK", d.felt(0), -1);
        Check.due("seen without a WALK", d.seen(0), -1);
        Check.due("heard without a WALK", d.heard(0, 0), -1);
        Check.due("strike without a WALK", d.strike(0, false), -1);
        Check.due("all without a WALK", d.all(0), -1);
        Scene.text(d, 0, "source 1 1 1");
        Check.due("heard without a WALK", d.heard(0, 0), -1);
        Check.due("odds without a WALK", d.odds(0, 0, ALL), -1);
        Scene.text(d, 1, "see 1");
        d.walk(0, 0, 0, 0, 0);
        Check.due("act 5", d.act(5), -1);
        Check.due("act -1", d.act(-1), -1);
        Check.due("ACTS", d.count(3), 0);
        Check.due("STEPS", d.count(4), 0);
    }

    /** The CELL farthest from the first one, and two LAWS one behind the other with EYES 30. */
    private static void corners() {
        Dark d = Scene.at("home 11 11;path 11 11 11 11;harm 500 11 11 11 11", "step 1000", 11, 11, 1);
        int[] due = {1000000000, 1000000000, 1000000000, 11, 11, 500000000, 1000000000, 0, 1000000000, 0, 0};
        for (int what = 0; what <= 10; what++) {
            Check.due("all(" + what + ") in the corner", d.all(what), due[what]);
        }
        d.act(1);
        Check.due("left", d.odds(11, 11, 0), 1000000000);
        d.act(0);
        Check.due("go", d.odds(11, 10, 0), 1000000000);
        for (int i = 0; i < 40; i++) {
            d.act(4);
        }
        d.act(0);
        Check.due("go with EYES 30", d.odds(11, 9, 0), 1000000000);
        Scene.text(d, 1, "step 0;drift 0");
        d.walk(0, 1, 11, 11, 0);
        for (int i = 0; i < 40; i++) {
            d.act(4);
        }
        d.act(0);
        Check.due("the other LAW", d.odds(11, 11, 0), 1000000000);
        // nothing of one WOOD's WEIGHTS comes to another one
        Dark e = Scene.at("wide 3 3", "step 500;drift 100", 1, 1, 0);
        Scene.text(e, 0, "wide 3 3;wall 0 1 1 2;wall 1 0 2 0");
        e.act(0);
        e.walk(1, 0, 0, 0, 0);
        Check.due("felt", e.felt(0), 1);
        Check.due("all together", e.all(6), 1000000000);
        Check.due("a wall", e.odds(1, 1, ALL), 0);
    }

    private static void totals() {
        Dark d = Scene.at("wide 3 3;home 0 1;path 1 0 2 1;harm 300 1 0 1 1;harm 1000 2 1 2 1", "step 500;drift 100", 1, 1, 0);
        d.act(0);
        // 500 at (1, 0) up, 300 at (1, 1) up, 100 at (0, 1) left, 100 at (2, 1) right
        int[] due = {900000000, 100000000, 500000000, 1, 0, 150000000 + 90000000 + 100000000, 1000000000, 800000000, 100000000, 0,
            100000000};
        for (int what = 0; what <= 10; what++) {
            Check.due("all(" + what + ")", d.all(what), due[what]);
        }
        Check.due("all(11)", d.all(11), -1);
        Check.due("all(-1)", d.all(-1), -1);
        d.act(3);
        Check.due("down", d.all(9), 800000000);
        // of several the first: rows from above, each from the left
        Dark e = Scene.at("wide 3 3", "step 0;drift 500", 1, 1, 0);
        e.act(0);
        Check.due("x of the first", e.all(3), 0);
        Check.due("y of the first", e.all(4), 1);
        Dark f = Scene.at("wide 3 3", "step 0;drift 500", 1, 1, 1);
        f.act(0);
        Check.due("SURE", f.all(2), 500000000);
        Check.due("x of the first", f.all(3), 1);
        Check.due("y of the first", f.all(4), 0);
        // RISK: downwards for each CELL
        Dark g = Scene.at("wide 3 2;ground 1 0 0 0 0;harm 1 0 0 2 1", "step 500;drift 0", 0, 0, 1);
        g.act(0);
        g.act(0);
        g.strike(0, false);
        Check.due("RISK", g.all(5), 666666 + 333333);
    }
}
