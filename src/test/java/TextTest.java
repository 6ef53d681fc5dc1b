/** Promises 1 to 6: a new object, the TAPE, texts and their FAULTS, CELLS and WOODS. */
public final class TextTest {
    private TextTest() {
    }

    public static void main(String[] args) {
        newObject();
        tape();
        numbersOfTexts();
        cellsAndWoods();
        faultsOfWoods();
        faultsOfLaws();
        faultsOfRules();
        depths();
        parts();
        oneBehindTheOther();
        Check.finish();
    }

    private static void newObject() {
        Dark d = new Dark();
        Check.due("NONE", DarkWood.NONE, -1);
        for (int what = 0; what <= 2; what++) {
            Check.due("count(" + what + ") of a new one", d.count(what), 0);
        }
        for (int what = 3; what <= 6; what++) {
            Check.due("count(" + what + ") of a new one", d.count(what), -1);
        }
        Check.due("count(7) of a new one", d.count(7), 0);
        Check.due("cell of a new one", d.cell(0, 0, 0, 0), -2);
        Check.due("wood of a new one", d.wood(0, 0), -1);
        Check.due("walk of a new one", d.walk(0, 0, 0, 0, 0), false);
        Check.due("odds of a new one", d.odds(0, 0, -1), -1);
        Check.due("parish of a new one", d.parish(0, 0), -1);
        Check.due("back of a new one", d.back(0), -1);
    }

    private static void tape() {
        Dark d = new Dark();
        Check.due("end(0)", d.end(0), 0);
        Check.due("end(1) of an empty TAPE", d.end(1), -1);
        Check.due("end(-1)", d.end(-1), -1);
        for (int i = 1; i <= 20; i++) {
            Check.due("feed " + i, d.feed(0, 1, 2, 3, 4), 20 * i);
        }
        Check.due("feed 21", d.feed(0, 1, 2, 3, 4), -1);
        Check.due("count(7)", d.count(7), 400);
        Check.due("end(401)", d.end(401), -1);
        Check.due("end(381)", d.end(381), 381);
        Check.due("feed on 381", d.feed(0, 1, 2, 3, 4), -1);
        Check.due("count(7)", d.count(7), 381);
        Check.due("end(380)", d.end(380), 380);
        Check.due("feed on 380", d.feed(0, 1, 2, 3, 4), 400);
        Check.due("end(-1)", d.end(-1), -1);
        Check.due("count(7)", d.count(7), 400);
        Check.due("end(0)", d.end(0), 0);
        // the bytes "wide 5 4" and " ;home 2 1;;": the highest byte of each number first
        Check.due("feed", d.feed(0x77696465, 0x20352034, 0x3b686f6d, 0x65203220, 0x313b3b3b), 20);
        Check.due("end", d.end(17), 17);
        Check.due("text", d.text(0), 0);
        Check.due("columns", d.wood(0, 0), 5);
        Check.due("rows", d.wood(0, 1), 4);
        Check.due("x of HOME", d.wood(0, 2), 2);
        Check.due("y of HOME", d.wood(0, 3), 1);
        Check.due("TAPE behind a text", d.count(7), 0);
        // two feeds follow one another
        Check.due("feed", d.feed(0x77696465, 0x20202020, 0x20202020, 0x20202020, 0x20202020), 20);
        Check.due("feed", d.feed(0x33202020, 0x20202020, 0x20202020, 0x20202020, 0x20202037), 40);
        Check.due("text", d.text(0), 1);
        Check.due("columns", d.wood(1, 0), 3);
        Check.due("rows", d.wood(1, 1), 7);
    }

    private static void numbersOfTexts() {
        Dark d = new Dark();
        String[] good = {"wide 3 4", "step 7", "go"};
        int[] most = {4, 6, 6};
        for (int sort = 0; sort < 3; sort++) {
            for (int i = 0; i < most[sort]; i++) {
                Check.due("a FAULT", Scene.text(d, sort, "go;?"), sort == 2 ? Scene.fault(3, 0) : Scene.fault(0, 0));
                Check.due("TAPE behind a FAULT", d.count(7), 0);
                Check.due("count", d.count(sort), i);
                Check.due("text", Scene.text(d, sort, good[sort]), i);
                Check.due("count", d.count(sort), i + 1);
            }
            Check.due("one too many", Scene.text(d, sort, good[sort]), -1);
            Check.due("TAPE behind it", d.count(7), good[sort].length());
            Check.due("one too many, with a FAULT", Scene.text(d, sort, "?"), -1);
            Check.due("count", d.count(sort), most[sort]);
            d.end(0);
        }
        Dark e = new Dark();
        Scene.feed(e, "go");
        Check.due("no such sort", e.text(3), -1);
        Check.due("no such sort", e.text(-1), -1);
        Check.due("TAPE behind it", e.count(7), 2);
        Check.due("text", e.text(2), 0);
        Check.due("an empty text", e.text(0), -3);
        Check.due("an empty text", e.text(1), -3);
        Check.due("an empty text", e.text(2), -3);
        Check.due("blanks alone", Scene.text(e, 2, "   "), Scene.fault(3, 0));
    }

    private static void areas(Dark d) {
        // a HOME beyond the WOOD, at a wall; CELLS beyond; of several areas the last one
        String text = "source 10 11 11;path 0 0 11 0;wall 4 3 11 11;wall 1 0 1 2;ground 3 0 0 4 3;ground 5 2 2 2 2;"
                + "sky 9 0 0 0 3;sky 0 0 1 0 1;harm 1000 3 0 3 0;harm 7 3 0 3 0;home 11 10;wide 5 4;source 40 0 0;source 1 2 2";
        Check.due("a WOOD", Scene.text(d, 0, text), 0);
        int[] layers = {0, 1, 2, 3, 4, 5, 6, 7, 8, 9};
        // x, y, then path, wall, ground, sky, harm, LOUD of 0 to 3, FAR
        int[][] cells = {
            {0, 0, 1, 0, 3, 9, 0, 0, 40, 0, -1, 7},
            {0, 1, 0, 0, 3, 0, 0, 0, 39, 0, -1, 6},
            {1, 0, 1, 1, 3, 0, 0, 0, 39, 0, -1, -1},
            {3, 0, 1, 0, 3, 0, 7, 0, 37, 0, -1, 4},
            {2, 2, 0, 0, 5, 0, 0, 0, 36, 1, -1, 3},
            {2, 3, 0, 0, 3, 0, 0, 0, 35, 0, -1, 2},
            {4, 3, 0, 0, 3, 0, 0, 0, 33, 0, -1, 0},
            {4, 2, 0, 0, 3, 0, 0, 0, 34, 0, -1, 1},
        };
        for (int[] one : cells) {
            for (int what : layers) {
                String call = "cell(0, " + one[0] + ", " + one[1] + ", " + what + ")";
                Check.due(call, d.cell(0, one[0], one[1], what), one[2 + what]);
            }
        }
        int[] told = {5, 4, 4, 3, 3};
        for (int what = 0; what < 5; what++) {
            Check.due("wood(0, " + what + ")", d.wood(0, what), told[what]);
        }
        Check.due("wood, what 5", d.wood(0, 5), -1);
        Check.due("wood, what -1", d.wood(0, -1), -1);
        Check.due("wood 1", d.wood(1, 0), -1);
        Check.due("wood -1", d.wood(-1, 0), -1);
        int[][] none = {{1, 0, 0, 0}, {-1, 0, 0, 0}, {0, 5, 0, 0}, {0, 0, 4, 0}, {0, -1, 0, 0}, {0, 0, -1, 0},
            {0, 0, 0, 10}, {0, 0, 0, -1}, {Integer.MAX_VALUE, 0, 0, 0}, {0, Integer.MAX_VALUE, 0, 0},
            {0, 0, Integer.MIN_VALUE, 0}, {0, 0, 0, Integer.MAX_VALUE}};
        for (int[] one : none) {
            Check.due("cell without these", d.cell(one[0], one[1], one[2], one[3]), -2);
        }
    }

    private static void cellsAndWoods() {
        Dark d = new Dark();
        areas(d);
        Check.due("a WOOD", Scene.text(d, 0, "wall 1 0 1 11"), 1);
        Check.due("columns without wide", d.wood(1, 0), 12);
        Check.due("rows without wide", d.wood(1, 1), 12);
        Check.due("HOME without home", d.wood(1, 2) + d.wood(1, 3), 0);
        Check.due("no SOURCES", d.wood(1, 4), 0);
        Check.due("LOUD of none", d.cell(1, 0, 0, 5), -1);
        Check.due("FAR without a way", d.cell(1, 2, 0, 9), -1);
        Check.due("FAR of a wall", d.cell(1, 1, 0, 9), -1);
        Check.due("FAR with a way", d.cell(1, 0, 11, 9), 11);
        Check.due("no wall", d.cell(1, 11, 11, 1), 0);
        // HOME is no wall, also where the wall is told behind it; a way around
        Check.due("a WOOD", Scene.text(d, 0, "home 2 0;wide 3 2 ;wall 2 0 2 0; wall 1 0 1 0"), 2);
        Check.due("HOME is no wall", d.cell(2, 2, 0, 1), 0);
        Check.due("a wall", d.cell(2, 1, 0, 1), 1);
        Check.due("FAR around", d.cell(2, 0, 0, 9), 4);
        Check.due("FAR not across", d.cell(2, 1, 1, 9), 2);
        Check.due("the whole of it", Scene.text(d, 0, "wide 12 12;path 0 0 11 11;home 11 11;source 40 11 11;sky 9 11 11 11 11"), 3);
        Check.due("LOUD", d.cell(3, 0, 0, 5), 18);
        Check.due("path at the corner", d.cell(3, 11, 11, 0), 1);
        Check.due("sky at the corner", d.cell(3, 11, 11, 3), 9);
        Check.due("FAR", d.cell(3, 0, 0, 9), 22);
    }

    private static void all(int sort, Object[][] texts) {
        for (Object[] one : texts) {
            Dark d = new Dark();
            String text = (String) one[0];
            int due = one.length == 1 ? 0 : Scene.fault((Integer) one[1], (Integer) one[2]);
            Check.due("text " + sort + " \"" + text + "\"", Scene.text(d, sort, text), due);
            Check.due("count behind \"" + text + "\"", d.count(sort), due == 0 ? 1 : 0);
        }
    }

    private static void faultsOfWoods() {
        all(0, new Object[][] {
            {"wide 5 4"}, {" wide5 4 ; home 0 11"}, {"wide 2 12"}, {"wide 00002 00012"}, {"path 3 3 3 3"},
            {"harm 1000 0 0 11 11"}, {"ground 7 0 0 0 0;sky 9 0 0 0 0;harm 0 0 0 0 0"}, {"source 1 11 11"},
            {"wide", 4, 0}, {"wide 5", 6, 0}, {"wide 5 ", 7, 0}, {"wide 1 4", 5, 1}, {"wide 5 13", 7, 1},
            {"wide 0 4", 5, 1}, {"wide 5 1", 7, 1}, {"ground 0 0 0 0 0"}, {"wide 000005 4", 5, 1}, {"wide 99999999999999999999 4", 5, 1}, {"wide 5,4", 6, 0},
            {"wide -5 4", 5, 0}, {"wide x 4", 5, 0}, {"wide 5 4;", 9, 0}, {"wide 5 4;;", 9, 0}, {";wide 5 4", 0, 0},
            {"wide 5 4 3", 9, 0}, {"wide 5 4 wide 5 4", 9, 0}, {"wid 5 4", 0, 0}, {"widee 5 4", 0, 0}, {"Wide 5 4", 0, 0},
            {"wide 5 4;home 1 1 ; wide 5 4", 20, 4}, {"wide 5 4;wide", 9, 4}, {"home 1 1;home 1 1", 9, 4},
            {"wide 5 4;wid", 9, 0}, {"wide\t5 4", 4, 0}, {"wide 5 4;5", 9, 0},
            {"home 12 0", 5, 1}, {"home 0 12", 7, 1}, {"home 0", 6, 0},
            {"path 3 3 2 5", 9, 1}, {"path 3 3 5 2", 11, 1}, {"path 12 3 5 2", 5, 1}, {"path 3 12 5 2", 7, 1},
            {"path 3 3 12 2", 9, 1}, {"path 3 3 3 12", 11, 1}, {"wall 3 3 4", 10, 0}, {"wall 3 3 4;", 10, 0},
            {"ground 8 0 0 0 0", 7, 1}, {"sky 10 0 0 0 0", 4, 1}, {"harm 1001 0 0 0 0", 5, 1}, {"ground 1 2 0 1 0", 13, 1},
            {"ground 1 0 0 0", 14, 0}, {"source 0 0 0", 7, 1}, {"source 41 0 0", 7, 1}, {"source 1 12 0", 9, 1},
            {"source 1 0 12", 11, 1}, {Scene.many("source 1 0 0", 4)}, {Scene.many("source 1 0 0", 5), 52, 4},
            {Scene.many("source 1 0 0", 4) + ";sauce", 52, 0}, {"go", 0, 0}, {"step 1", 0, 0}, {"\u00e4", 0, 0}, {"path 1 1 2 2\u0000", 12, 0},
            {Scene.many("path 0 0 0 0", 24)}, {Scene.many("path 0 0 0 0", 25), 24 * 13, 4}, {Scene.many("path 0 0 0 0", 24) + ";", 312, 0},
            {Scene.many("path 0 0 0 0", 24) + ";x", 312, 0}, {Scene.many("wall 0 0 0 0", 24) + "; wide 1", 313, 4},
        });
    }

    private static void faultsOfLaws() {
        all(1, new Object[][] {
            {"step 800;drift 100;feel 700;hear 600"}, {"drift 0"}, {"drift 500"}, {"feel 0;see 0;hear 0"},
            {"feel 1000;see 1000;hear 1000"}, {"step 99999"}, {"step path+ground*sky-harm/eyes"},
            {"step eyes if ground=3 and harm<500 or not[sky>=2]"}, {"step 1 if 1<2"}, {"step 1 if 1<=2"}, {"step 1 if 1=2"},
            {"step 1 if 1>=2"}, {"step 1 if 1>2"}, {"step1if1<2"}, {Scene.many("step 1", 12)},
            {"drift 501", 6, 1}, {"drift", 5, 0}, {"drift eyes", 6, 0}, {"feel 1001", 5, 1}, {"see 1001", 4, 1}, {"hear 1001", 5, 1},
            {"drift 1;drift 1", 8, 4}, {"feel 1;feel 1", 7, 4}, {"see 1;see 1", 6, 4}, {"hear 1;hear 1", 7, 4},
            {"step", 4, 0}, {"step 100000", 5, 1}, {"step 1+100000", 7, 1}, {"step -1", 5, 0}, {"step 1+", 7, 0}, {"step 1+;", 7, 0},
            {"step +1", 5, 0}, {"step 1 1", 7, 0}, {"step on", 5, 0}, {"step at", 5, 0}, {"step matches", 5, 0}, {"step pathe", 5, 0},
            {"step 1<2", 6, 0}, {"step [1]", 5, 0}, {"step 1 if", 9, 0}, {"step 1 if 2", 11, 0}, {"step 1 if 1<", 12, 0},
            {"step 1 if 1<2 and", 17, 0}, {"step 1 if 1<2 or ", 17, 0}, {"step 1 if 1< =2", 13, 0}, {"step 1 if 1=<2", 12, 0},
            {"step 1 if 1==2", 12, 0}, {"step 1 if 1<2<3", 13, 0}, {"step 1 if [1<2", 14, 0}, {"step 1 if 1<2]", 13, 0},
            {"step 1 if [1]<2", 12, 0}, {"step 1 if [1<2]<2", 15, 0}, {"step 1 if not", 13, 0}, {"step 1 if 1<not 2", 12, 0},
            {"step 1 if 1<2 if 1<2", 14, 0}, {"step 1 if and 1<2", 10, 0}, {"step 1 if 1<>2", 12, 0}, {"step 1 if 1!2", 11, 0},
            {"step 1 if 1<2 and if", 18, 0}, {"step 1 if (1<2)", 10, 0}, {"step 1 if 123456<2", 10, 1}, {"step a0", 5, 0},
            {"drift 20 if 1<2", 9, 0}, {"step 0 if path<1;;", 17, 0}, {"path 0 0 1 1", 0, 0}, {"go", 0, 0},
            {Scene.many("step 1", 12) + ";step 1", 84, 4}, {Scene.many("step 1", 12) + ";drift 1", 84, 4}, {Scene.many("step 1", 12) + ";", 84, 0},
            {Scene.many("step 1", 12) + ";stepp 1", 84, 0}, {Scene.many("step 1", 11) + ";see 1;see 1", 83, 4},
        });
    }

    private static void faultsOfRules() {
        all(2, new Object[][] {
            {"go"}, {"go;left;right;back;sit;strike"}, {"go if on>=500;left if sure<300;go"},
            {"go if on+at+sure+ground+sky+loud+steps+matches+eyes+path=0"}, {"go if not not 1<2"}, {Scene.many("sit", 12)},
            {"go if not[not[1<2]and 1<2]or 1<2"}, {"  strike  if  matches > 0  "},
            {"go if", 5, 0}, {"sit;", 4, 0}, {"strike 1", 7, 0}, {"go left", 3, 0}, {"goo", 0, 0}, {"goz", 0, 0}, {"go{", 2, 0}, {"go`", 2, 0}, {"go if 1<2:", 9, 0}, {"go if 1</", 8, 0}, {"g", 0, 0}, {"go if harm<1", 6, 0},
            {"go if on", 8, 0}, {"go;if", 3, 0}, {"go if on<1;on", 11, 0}, {"go if on<go", 9, 0}, {"step 1", 0, 0}, {"1", 0, 0},
            {"go if on<123456", 9, 1}, {"go if on<12345"}, {"go if on < 00000"}, {"go if on < 000000", 11, 1},
            {Scene.many("sit", 13), 48, 4}, {Scene.many("sit", 12) + ";1", 48, 0}, {Scene.many("sit", 12) + " 1", 48, 0},
            {Scene.many("sit", 12) + ";if", 48, 0},
        });
    }

    private static String deep(String opening, int times, String inner, String closing) {
        return opening.repeat(times) + inner + closing.repeat(times);
    }

    private static void depths() {
        all(2, new Object[][] {
            {"go if " + deep("[", 10, "1<2", "]")}, {"go if " + deep("not ", 10, "1<2", "")},
            {"go if " + deep("not[", 5, "1<2", "]")}, {"go if " + deep("[not ", 5, "1<2", "]")},
            {"go if " + deep("[", 11, "1<2", "]"), 16, 2}, {"go if " + deep("not ", 11, "1<2", ""), 46, 2},
            {"go if " + deep("not[", 5, "not 1<2", "]"), 26, 2}, {"go if " + deep("not[", 5, "[1<2]", "]"), 26, 2},
            {"go if " + deep("[", 10, "1<2 and not 1<2", "]"), 24, 2},
            {"go if " + deep("[", 10, "1<2", "]") + " and " + deep("not ", 10, "1<2", "") + "or[1<2]"},
            {"go if not[" + deep("[", 8, "1<2]and[1<2", "]") + "]"},
            {"go if " + deep("[", 12, "", "")  , 16, 2}, {"go if " + deep("[", 10, "", ""), 16, 0},
            {"go if " + deep("[", 10, "1<2", "]").substring(1), 27, 0},
        });
        all(1, new Object[][] {
            {"step 1 if " + deep("[", 10, "1<2", "]")}, {"step 1 if " + deep("[", 11, "1<2", "]"), 20, 2},
            {"step 1 if " + deep("not ", 11, "1<2", ""), 50, 2},
        });
    }

    /** What was told by a text with a FAULT, or by another text, is not told by the next one. */
    private static void oneBehindTheOther() {
        Dark d = new Dark();
        String full = "wide 5 4;home 3 2;path 0 0 11 11;wall 0 0 1 1;ground 5 0 0 11 11;sky 5 0 0 11 11;harm 5 0 0 11 11;source 5 0 0";
        Check.due("a FAULT", Scene.text(d, 0, full + ";"), Scene.fault(full.length() + 1, 0));
        Check.due("no CELL", d.cell(0, 3, 2, 0), -2);
        Check.due("no WOOD", d.wood(0, 0), -1);
        Check.due("a LAW", Scene.text(d, 1, "step 1"), 0);
        Check.due("no WALK there", d.walk(0, 0, 3, 2, 0), false);
        Check.due("a WOOD", Scene.text(d, 0, "wall 11 11 11 11"), 0);
        int[] none = {0, 0, 0, 0, 0, -1, -1, -1, -1};
        for (int what = 0; what < 9; what++) {
            Check.due("nothing of the FAULT's: " + what, d.cell(0, 1, 1, what), none[what]);
        }
        int[] wood = {12, 12, 0, 0, 0};
        for (int what = 0; what < 5; what++) {
            Check.due("nothing of the FAULT's: " + what, d.wood(0, what), wood[what]);
        }
        Check.due("no WALK there", d.walk(0, 1, 3, 2, 0), false);
        Check.due("a WALK", d.walk(0, 0, 1, 1, 0), true);
        String law = "step 100;drift 100;feel 100;see 100;hear 100";
        Check.due("a FAULT", Scene.text(d, 1, law + ";"), Scene.fault(law.length() + 1, 0));
        Check.due("a RULE between", Scene.text(d, 2, "go if on>1"), 0);
        Check.due("a LAW", Scene.text(d, 1, "step harm+1000 if eyes=0"), 1);
        Check.due("a WALK", d.walk(0, 1, 1, 1, 0), true);
        d.act(0);
        Check.due("by the new LAW alone", d.odds(1, 0, 0), 1000000000);
        d.act(2);
        d.act(0);
        Check.due("900 without, drift 20", d.odds(2, 0, 1), 900000000);
        Check.due("900 without, drift 20", d.odds(1, 1, 2), 20000000);
        Check.due("60 VALUES", Scene.text(d, 1, "step " + Scene.sum(60)), 2);
        Check.due("and 60 more", Scene.text(d, 1, "step " + Scene.sum(60)), 3);
        Check.due("and 61", Scene.text(d, 1, "step " + Scene.sum(61)), Scene.fault(125, 3));
        for (int i = 0; i < 10; i++) {
            Check.due("a FAULT", Scene.text(d, 2, "left if " + Scene.sum(29) + "<" + Scene.sum(29) + ";right if ["), Scene.fault(134, 0));
            Check.due("a FAULT", Scene.text(d, 1, "step " + Scene.sum(60) + ";"), Scene.fault(125, 0));
        }
        Check.due("a FAULT", Scene.text(d, 2, "left;left;left;"), Scene.fault(15, 0));
        Check.due("a RULE", Scene.text(d, 2, "right"), 1);
        Check.due("by the new RULE alone", d.night(1, 1, 1, 0, 0, 1, 4), 1);
        Check.due("a LAW", Scene.text(d, 1, "step 100+harm if 1=1"), 4);
        Check.due("a WALK", d.walk(0, 4, 1, 1, 1), true);
        d.act(0);
        Check.due("by this LAW", d.odds(2, 1, 1), 100000000);
    }

    private static void parts() {
        all(1, new Object[][] {
            {"step " + Scene.sum(60)}, {"step " + Scene.sum(61), 5 + 120, 3}, {"step " + Scene.sum(62), 5 + 120, 3},
            {"step " + Scene.sum(60) + "+", 5 + 120, 0}, {"step " + Scene.sum(60) + "+123456", 5 + 120, 1},
            {"step " + Scene.sum(60) + "+on", 5 + 120, 0}, {"step " + Scene.sum(60) + "+ eyes", 5 + 121, 3},
            // 58 VALUES and a FACT are 59, 60 with what stands behind its SIGN
            {"step 1 if " + Scene.sum(57) + "<1"}, {"step 1 if " + Scene.sum(58) + "<1", 10 + 115 + 1, 3},
            {"step 1 if " + Scene.sum(59) + "<1", 10 + 117, 3}, {"step 1 if " + Scene.sum(59) + " <=1", 10 + 118, 3},
            {"step 1 if " + Scene.sum(59) + "]", 10 + 117, 0}, {"step 1 if " + Scene.sum(60), 10 + 118, 3},
            // drift tells a NUMBER, not a VALUE; all CLAUSES of a text count together
            {"drift 5;step " + Scene.sum(60)}, {"step " + Scene.sum(30) + ";step " + Scene.sum(30)},
            {"step " + Scene.sum(30) + ";step " + Scene.sum(31), 5 + 59 + 1 + 5 + 60, 3},
        });
        all(2, new Object[][] {
            {"go if " + "1<1 or ".repeat(19) + "1<1"}, {"go if " + "1<1 or ".repeat(20) + "1<1", 6 + 140, 3},
            {"go if [" + "1<1 or ".repeat(19) + "not 1<1]"}, {"go if [" + "1<1 or ".repeat(20) + "not 1<1]", 7 + 144, 3},
            {Scene.many("go if 1<1", 12)}, {Scene.many("go if 1*1*1<1", 12)}, {Scene.many("go if 1*1*1*1<1", 11), 16 * 10 + 6, 3},
        });
    }
}
