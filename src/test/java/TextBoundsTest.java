/** Terms I and promises 1 to 6, sentence by sentence: the last that is taken, the first that is refused. */
public final class TextBoundsTest {
    private static final int WOOD = 0;
    private static final int LAW = 1;
    private static final int RULE = 2;

    private TextBoundsTest() {
    }

    public static void main(String[] args) {
        aNewObject();
        feeding();
        bytesOfFeeding();
        ending();
        tapeBehindAText();
        asManyAsCanBe();
        noSuchSort();
        fourHundredBytes();
        clausesOfAWood();
        clausesOfLawsAndRules();
        numbersOfWoods();
        numbersOfAreas();
        numbersOfLaws();
        numbersOfTests();
        digits();
        firstAndLastCell();
        severalAreas();
        beyondTheWood();
        sizes();
        homes();
        onceAtMost();
        sources();
        loud();
        far();
        layers();
        Check.finish();
    }

    private static void taken(int sort, String text) {
        Check.due("text(" + sort + ") \"" + text + "\"", Scene.text(new Dark(), sort, text), 0);
    }

    private static void fault(int sort, String text, int place, int kind) {
        Dark d = new Dark();
        Check.due("text(" + sort + ") \"" + text + "\"", Scene.text(d, sort, text), Scene.fault(place, kind));
        Check.due("count behind it", d.count(sort), 0);
    }

    /** A NUMBER at a place of a text: its least and its most are taken, one beside them is not, nor are six digits or none. */
    private static void number(int sort, String before, int least, int most, String after) {
        int place = before.length();
        taken(sort, before + least + after);
        taken(sort, before + most + after);
        taken(sort, before + String.format("%05d", least) + after);
        taken(sort, before + String.format("%05d", most) + after);
        if (least > 0) {
            fault(sort, before + (least - 1) + after, place, 1);
            fault(sort, before + 0 + after, place, 1);
        }
        if (most < 99999) {
            fault(sort, before + (most + 1) + after, place, 1);
            fault(sort, before + 99999 + after, place, 1);
        }
        fault(sort, before + String.format("%06d", least) + after, place, 1);
        fault(sort, before + 100000 + after, place, 1);
        fault(sort, before + "-1" + after, place, 0);
        fault(sort, before + "x" + after, place, 0);
        fault(sort, before + ";" + after, place, 0);
        fault(sort, before.stripTrailing(), before.stripTrailing().length(), 0);
        fault(sort, before, place, 0);
    }

    private static void aNewObject() {
        Check.sentence("No texts, no WALK, no POSTS.");
        Dark d = new Dark();
        for (int what = 0; what <= 7; what++) {
            Check.due("count(" + what + ")", d.count(what), what >= 3 && what <= 6 ? -1 : 0);
        }
        Check.due("wood", d.wood(0, 0), -1);
        Check.due("cell", d.cell(0, 0, 0, 0), -2);
        Check.due("walk", d.walk(0, 0, 0, 0, 0), false);
        Check.due("act", d.act(4), -1);
        Check.due("all", d.all(6), -1);
        Check.due("parish without a WOOD", d.parish(0, 0), -1);
        Check.due("a WOOD", Scene.text(d, WOOD, "path 0 0 0 0"), 0);
        Check.due("parish without POSTS", d.parish(0, 40), -2);
        Check.due("the first CELL is no POST", d.parish(0, 0), -2);
        Check.due("a LAW", Scene.text(d, LAW, "see 1"), 0);
        Check.due("finest without a WALK", d.finest(0, 0, 0, 0, 1, 1), -1);
        Check.due("walk", d.walk(0, 0, 0, 0, 0), true);
        Check.due("finest without RULES", d.finest(0, 0, 0, 0, 1, 1), -2);
        Check.due("night without RULES", d.night(0, 0, 0, 0, 0, 1, 0), -1);
        Check.due("nights without RULES", d.nights(0, 0, 0, 0, 0, 1, 1, 0), -1);
        Check.due("one object's WOOD is not another one's", new Dark().count(0), 0);
        Check.sentence("WOODS 0 to 3: texts of at most 400 bytes:");
        for (int i = 1; i < 4; i++) {
            Check.due("WOODS", Scene.text(d, WOOD, "home 1 1"), i);
        }
        Check.due("a fifth", Scene.text(d, WOOD, "home 1 1"), -1);
        Check.sentence("None.");
        Check.due("NONE", DarkWood.NONE, -1);
    }

    private static void feeding() {
        Check.sentence("NONE, and none comes, if it would have more than 400.");
        Dark d = new Dark();
        for (int has = 20; has <= 400; has += 20) {
            Check.due("feed", d.feed(0, 0, 0, 0, 0), has);
        }
        Check.due("feed on 400", d.feed(0, 0, 0, 0, 0), -1);
        Check.due("bytes", d.count(7), 400);
        Check.due("end", d.end(399), 399);
        Check.due("feed on 399", d.feed(0, 0, 0, 0, 0), -1);
        Check.due("bytes", d.count(7), 399);
        Check.due("end", d.end(381), 381);
        Check.due("feed on 381", d.feed(0, 0, 0, 0, 0), -1);
        Check.due("bytes", d.count(7), 381);
        Check.due("end", d.end(380), 380);
        Check.due("feed on 380", d.feed(0, 0, 0, 0, 0), 400);
        Check.due("end", d.end(1), 1);
        Check.due("feed on 1", d.feed(0, 0, 0, 0, 0), 21);
        // none of the twenty came: behind the 381 there is nothing, so that the text stands as it was fed
        Dark e = new Dark();
        Scene.feed(e, "home 2 1" + " ".repeat(373));
        Check.due("feed on 381", e.feed(0x3b3b3b3b, 0x3b3b3b3b, 0x3b3b3b3b, 0x3b3b3b3b, 0x3b3b3b3b), -1);
        Check.due("end behind what didn't come", e.end(382), -1);
        Check.due("text", e.text(WOOD), 0);
    }

    private static void bytesOfFeeding() {
        Check.sentence("Twenty bytes come behind the TAPE, of each number the highest first: how many it has;");
        Dark d = new Dark();
        // "wide", " 12 ", "11;h", "ome ", "10 9"
        Check.due("feed", d.feed(0x77696465, 0x20313220, 0x31313b68, 0x6f6d6520, 0x31302039), 20);
        Check.due("text", d.text(WOOD), 0);
        int[] due = {12, 11, 10, 9, 0};
        for (int what = 0; what < 5; what++) {
            Check.due("wood(0, " + what + ")", d.wood(0, what), due[what]);
        }
        // behind the TAPE: "go;go;go;go;go;go;go" and "   ", and what comes is the first byte of the next twenty
        Check.due("feed", d.feed(0x676f3b67, 0x6f3b676f, 0x3b676f3b, 0x676f3b67, 0x6f3b676f), 20);
        Check.due("feed", d.feed(0x3b73696b, 0, 0, 0, 0), 40);
        Check.due("text", d.text(RULE), Scene.fault(21, 0));
        // a byte above 127, also as the highest of a number, is no other byte
        for (int one : new int[] {128, 200, 128 + 'g', 255}) {
            Check.due("feed", d.feed(one << 24, 0, 0, 0, 0), 20);
            d.end(1);
            Check.due("text of a byte " + one, d.text(RULE), Scene.fault(0, 0));
            Check.due("feed", d.feed(0x676f0000 | one << 8, 0, 0, 0, 0), 20);
            d.end(3);
            Check.due("text of go and a byte " + one, d.text(RULE), Scene.fault(2, 0));
        }
        // all bits of each number: none of them spills into another byte
        Check.due("feed", d.feed(0xff676fff, -1, Integer.MIN_VALUE, Integer.MAX_VALUE, 0), 20);
        Check.due("text", d.text(RULE), Scene.fault(0, 0));
        Check.due("feed", d.feed(0x676f2020, 0x20202020, 0x20202020, 0x20202020, 0x202020ff), 20);
        Check.due("text", d.text(RULE), Scene.fault(19, 0));
    }

    private static void ending() {
        Check.sentence("The TAPE has its first n bytes alone: n; NONE, and nothing happens, if it has not so many, or n is below 0.");
        Dark d = new Dark();
        Check.due("end(0) of an empty TAPE", d.end(0), 0);
        Check.due("end(1) of an empty TAPE", d.end(1), -1);
        Scene.feed(d, "sit;left;right;go;bac");
        Check.due("end(22) of 21", d.end(22), -1);
        Check.due("end(-1)", d.end(-1), -1);
        Check.due("end(MIN)", d.end(Integer.MIN_VALUE), -1);
        Check.due("end(MAX)", d.end(Integer.MAX_VALUE), -1);
        Check.due("bytes", d.count(7), 21);
        Check.due("end(21) of 21", d.end(21), 21);
        Check.due("bytes", d.count(7), 21);
        Check.due("end(20) of 21", d.end(20), 20);
        Check.due("end(21) of 20", d.end(21), -1);
        Check.due("end(17)", d.end(17), 17);
        Check.due("the first ones: up to go", d.text(RULE), 0);
        Scene.feed(d, "sit");
        Check.due("end(0)", d.end(0), 0);
        Check.due("bytes", d.count(7), 0);
        // what was cut off doesn't come again
        Scene.feed(d, "go;left;right;back;sit;strike");
        d.end(2);
        Check.due("feed", d.feed(0x3b676f20, 0x20202020, 0x20202020, 0x20202020, 0x20202020), 22);
        Check.due("go;go", d.text(RULE), 1);
    }

    private static void tapeBehindAText() {
        Check.sentence("The TAPE, which is empty then (with a FAULT, too), is a text,");
        String[] good = {"wide 3 3", "step 5", "go"};
        for (int sort = 0; sort < 3; sort++) {
            Dark d = new Dark();
            Check.due("a text", Scene.text(d, sort, good[sort]), 0);
            Check.due("bytes behind it", d.count(7), 0);
            Check.due("the TAPE is empty: a text of it", d.text(sort), Scene.fault(0, 0));
            Check.due("a FAULT", Scene.text(d, sort, good[sort] + ";"), Scene.fault(good[sort].length() + 1, 0));
            Check.due("bytes behind it", d.count(7), 0);
            Check.due("count", d.count(sort), 1);
            Check.due("the first bytes again", d.feed(0, 0, 0, 0, 0), 20);
            d.end(0);
            Check.due("the next number, none for FAULTS", Scene.text(d, sort, good[sort]), 1);
        }
    }

    private static void asManyAsCanBe() {
        Check.sentence("NONE, and nothing happens: there are as many as can be, or no such sort.");
        String[] good = {"wide 3 3", "step 5", "go"};
        int[] most = {4, 6, 6};
        for (int sort = 0; sort < 3; sort++) {
            Dark d = new Dark();
            for (int i = 0; i < most[sort]; i++) {
                Check.due("text " + i, Scene.text(d, sort, good[sort]), i);
            }
            Check.due("one more", Scene.text(d, sort, good[sort]), -1);
            Check.due("the TAPE stays", d.count(7), good[sort].length());
            Check.due("one more", d.text(sort), -1);
            Check.due("count", d.count(sort), most[sort]);
            int other = (sort + 1) % 3;
            d.end(0);
            Check.due("of another sort there are none yet", Scene.text(d, other, good[other]), 0);
            Check.due("a FAULT is not even looked for", Scene.text(d, sort, "#"), -1);
            Check.due("the TAPE stays", d.count(7), 1);
            Check.due("and is a text of another sort", d.text(other), Scene.fault(0, 0));
        }
        Dark d = new Dark();
        for (int i = 0; i < 4; i++) {
            Scene.text(d, WOOD, "wide " + (i + 2) + " 3");
        }
        Check.due("a fifth", Scene.text(d, WOOD, "wide 9 9"), -1);
        for (int i = 0; i < 4; i++) {
            Check.due("columns", d.wood(i, 0), i + 2);
        }
        Check.due("wood(4, 0)", d.wood(4, 0), -1);
    }

    private static void noSuchSort() {
        Check.sentence("sort 0: a WOOD, 1: a LAW, 2: a RULE: its number; -2 - its FAULT; NONE, and nothing happens:");
        Dark d = new Dark();
        Scene.feed(d, "sit");
        for (int sort : new int[] {-1, 3, -2, 4, Integer.MIN_VALUE, Integer.MAX_VALUE}) {
            Check.due("text(" + sort + ")", d.text(sort), -1);
            Check.due("the TAPE stays", d.count(7), 3);
        }
        Check.due("no text came", d.count(0) + d.count(1) + d.count(2), 0);
        Check.due("and it is a RULE", d.text(RULE), 0);
        Check.due("a RULE is no WOOD", Scene.text(d, WOOD, "sit"), Scene.fault(0, 0));
        Check.due("a RULE is no LAW", Scene.text(d, LAW, "sit"), Scene.fault(0, 0));
        Check.due("a WOOD", Scene.text(d, WOOD, "home 1 1"), 0);
        Check.due("a LAW", Scene.text(d, LAW, "step 1"), 0);
    }

    private static void fourHundredBytes() {
        Check.sentence("texts of at most 400 bytes: CLAUSE { ; CLAUSE }, 24 at most.");
        String[] first = {"home", "step", "sit ;"};
        String[] last = {" 11 11", " 4321", "strike"};
        for (int sort = 0; sort < 3; sort++) {
            String blanks = " ".repeat(400 - first[sort].length() - last[sort].length());
            Dark d = new Dark();
            Check.due("400 bytes", Scene.text(d, sort, first[sort] + blanks + last[sort]), 0);
            Check.due("the last of 400 can't stand", Scene.text(d, sort, first[sort] + blanks.substring(1) + last[sort] + "#"),
                    Scene.fault(399, 0));
            Check.due("the end behind 400", Scene.text(d, sort, first[sort] + blanks.substring(1) + last[sort] + ";"),
                    Scene.fault(400, 0));
            if (sort == WOOD) {
                Check.due("y of HOME, its last digit is the last byte", d.wood(0, 3), 11);
            }
        }
        Check.due("400 blanks", Scene.text(new Dark(), WOOD, " ".repeat(400)), Scene.fault(400, 0));
        Check.due("400 digits", Scene.text(new Dark(), LAW, "step " + "1".repeat(395)), Scene.fault(5, 1));
        Check.due("400 letters", Scene.text(new Dark(), RULE, "g".repeat(400)), Scene.fault(0, 0));
        Check.due("one byte", Scene.text(new Dark(), RULE, "g"), Scene.fault(0, 0));
        Check.due("no byte", Scene.text(new Dark(), WOOD, ""), Scene.fault(0, 0));
    }

    private static void clausesOfAWood() {
        Check.sentence("texts of at most 400 bytes: CLAUSE { ; CLAUSE }, 24 at most.");
        String full = Scene.many("path 0 0 0 0", 24);
        taken(WOOD, full);
        for (String more : new String[] {"path 0 0 0 0", "wide 5 5", "source 1 1 1", "home", "sky"}) {
            fault(WOOD, full + ";" + more, 24 * 13, 4);
            fault(WOOD, full + " ; " + more, 24 * 13 + 2, 4);
        }
        fault(WOOD, full + ";", 24 * 13, 0);
        fault(WOOD, full + ";paths", 24 * 13, 0);
        fault(WOOD, full + " path 0 0 0 0", 24 * 13, 0);
        // the 24th counts
        Dark d = new Dark();
        Check.due("text", Scene.text(d, WOOD, Scene.many("path 0 0 0 0", 23) + ";wide 7 5"), 0);
        Check.due("columns told by the 24th", d.wood(0, 0), 7);
        taken(WOOD, "wide 5 5;home 1 1;" + Scene.many("wall 9 9 9 9", 22));
        fault(WOOD, "wide 5 5;home 1 1;" + Scene.many("wall 9 9 9 9", 23), 18 + 22 * 13, 4);
        fault(WOOD, "", 0, 0);
        fault(WOOD, ";", 0, 0);
    }

    private static void clausesOfLawsAndRules() {
        Check.sentence("LAWS 0 to 5 and RULES 0 to 5: texts likewise, 12 CLAUSES at most.");
        taken(LAW, Scene.many("step 1", 12));
        fault(LAW, Scene.many("step 1", 13), 84, 4);
        for (String more : new String[] {"drift 1", "feel 1", "see 1", "hear 1", "step", "step 1 if"}) {
            fault(LAW, Scene.many("step 1", 12) + ";" + more, 84, 4);
        }
        taken(LAW, "drift 1;feel 1;see 1;hear 1;" + Scene.many("step 1", 8));
        fault(LAW, "drift 1;feel 1;see 1;hear 1;" + Scene.many("step 1", 9), 28 + 56, 4);
        taken(RULE, Scene.many("sit", 12));
        for (String more : new String[] {"go", "left", "right", "back", "sit", "strike", "go if"}) {
            fault(RULE, Scene.many("sit", 12) + ";" + more, 48, 4);
        }
        fault(LAW, "", 0, 0);
        fault(RULE, "", 0, 0);
        // the twelfth CLAUSE counts
        Dark d = Scene.told("wide 3 2;home 2 1", Scene.many("step 0 if path=1", 11) + ";step 1000",
                Scene.many("go if 1=2", 11) + ";left", Scene.many("go if 1=2", 12));
        d.walk(0, 0, 0, 0, 1);
        d.act(0);
        Check.due("by the twelfth of a LAW", d.odds(1, 0, 1), 1000000000);
        Check.due("by the twelfth of a RULE", d.night(0, 0, 0, 1, 5, 1, 4), 0);
        Check.due("by none: sit", d.night(1, 0, 0, 1, 5, 1, 4), 1);
        for (int sort = 1; sort <= 2; sort++) {
            Dark six = new Dark();
            for (int i = 0; i < 6; i++) {
                Check.due("texts 0 to 5", Scene.text(six, sort, sort == LAW ? "see " + i : "sit"), i);
            }
            Check.due("text 6", Scene.text(six, sort, sort == LAW ? "see 6" : "sit"), -1);
        }
    }

    private static void numbersOfWoods() {
        Check.sentence("wide NUMBER NUMBER (2 to 12 each: columns, rows; 12 and 12 without)");
        number(WOOD, "wide ", 2, 12, " 5");
        number(WOOD, "wide 5 ", 2, 12, "");
        number(WOOD, "path 0 0 0 0;wide ", 2, 12, " 12;home 0 0");
        Check.sentence("ground NUMBER AREA (0 to 7)");
        number(WOOD, "ground ", 0, 7, " 0 0 0 0");
        Check.sentence("sky NUMBER AREA (0 to 9)");
        number(WOOD, "sky ", 0, 9, " 0 0 0 0");
        Check.sentence("harm NUMBER AREA (0 to 1000)");
        number(WOOD, "harm ", 0, 1000, " 0 0 0 0");
        Check.sentence("source NUMBER NUMBER NUMBER (1 to 40 loud; x, y: 0 to 11 each; 4 sources at most)");
        number(WOOD, "source ", 1, 40, " 0 0");
        number(WOOD, "source 1 ", 0, 11, " 0");
        number(WOOD, "source 1 0 ", 0, 11, "");
        Check.sentence("home NUMBER NUMBER (0 to 11 each; 0 and 0 without)");
        number(WOOD, "home ", 0, 11, " 0");
        number(WOOD, "home 0 ", 0, 11, "");
        number(WOOD, "wide 2 2;home ", 0, 11, " 11");
    }

    private static void numbersOfAreas() {
        Check.sentence("CLAUSE: wide NUMBER NUMBER (2 to 12 each: columns, rows; 12 and 12 without) | path AREA | wall AREA | ground NUMBER AREA"
                + " (0 to 7) | sky NUMBER AREA (0 to 9) | harm NUMBER AREA (0 to 1000) |");
        number(WOOD, "path ", 0, 11, " 0 11 11");
        number(WOOD, "wall ", 0, 11, " 0 11 11");
        Check.sentence("AREA: four NUMBERS (0 to 11 each), x, y of its first CELL and of its last one, neither below that of the first.");
        for (String word : new String[] {"path ", "wall ", "ground 7 ", "sky 9 ", "harm 1000 "}) {
            number(WOOD, word, 0, 11, " 0 11 11");
            number(WOOD, word + "0 ", 0, 11, " 11 11");
            number(WOOD, word + "0 0 ", 0, 11, " 11");
            number(WOOD, word + "0 0 11 ", 0, 11, "");
            for (int first : new int[] {1, 6, 11}) {
                number(WOOD, word + first + " 0 ", first, 11, " 0");
                number(WOOD, word + "0 " + first + " 0 ", first, 11, "");
            }
            // also in a WOOD that is smaller, and of the other number neither
            taken(WOOD, "wide 2 2;" + word + "11 11 11 11");
            taken(WOOD, word + "3 7 7 7");
            taken(WOOD, word + "7 3 7 7");
            fault(WOOD, word + "3 3 3 3 3", (word + "3 3 3 3 ").length(), 0);
        }
        fault(WOOD, "ground 0 0 0 0", 14, 0);
        fault(WOOD, "path 0 0 0 0 0", 13, 0);
    }

    private static void numbersOfLaws() {
        Check.sentence("drift NUMBER (0 to 500) | feel NUMBER | see NUMBER | hear NUMBER (0 to 1000 each).");
        number(LAW, "drift ", 0, 500, "");
        for (String word : new String[] {"feel ", "see ", "hear "}) {
            number(LAW, word, 0, 1000, "");
            number(LAW, "step 1;" + word, 0, 1000, ";step 2");
        }
        fault(LAW, "drift path", 6, 0);
        fault(LAW, "feel 1+1", 6, 0);
        fault(LAW, "see 1 if 1=1", 6, 0);
        fault(LAW, "hear 1 1", 7, 0);
    }

    private static void numbersOfTests() {
        Check.sentence("VALUE: NUMBER (1 to 5 digits, as far as digits go on) | WORD.");
        number(LAW, "step ", 0, 99999, "");
        number(LAW, "step 1+", 0, 99999, "");
        number(LAW, "step 1/", 0, 99999, " if 1=1");
        number(LAW, "step 1 if ", 0, 99999, "=1");
        number(LAW, "step 1 if 1>=", 0, 99999, "");
        number(RULE, "go if ", 0, 99999, "<1");
        number(RULE, "go if not[1*2<", 0, 99999, "]or 1=1");
    }

    private static void digits() {
        Check.sentence("VALUE: NUMBER (1 to 5 digits, as far as digits go on) | WORD.");
        fault(LAW, "step 000001", 5, 1);
        fault(LAW, "step 0000000000000000000000000000000000001", 5, 1);
        fault(LAW, "step 4294967297", 5, 1);
        fault(LAW, "step 18446744073709551617", 5, 1);
        taken(LAW, "step 00001");
        fault(LAW, "step 0 0", 7, 0);
        fault(LAW, "step 0x1", 6, 0);
        fault(LAW, "step 1.5", 6, 0);
        fault(LAW, "step 1e1", 6, 0);
        // as far as digits go on: five and one more are no two NUMBERS
        fault(WOOD, "wide 000022", 5, 1);
        taken(WOOD, "wide 00002 2");
        // bytes beside the digits are none
        fault(LAW, "step 1/", 7, 0);
        fault(LAW, "step 1:", 6, 0);
        // all five digits count
        Dark d = Scene.at("wide 3 2", "step 500 if 99999=99998+1 and 10000-9999=1 and 12345>12344;step 0;drift 0", 0, 0, 1);
        d.act(0);
        Check.due("five digits", d.odds(1, 0, 1), 500000000);
    }

    /** An AREA has its first and its last CELL, and none beside them. */
    private static void firstAndLastCell() {
        Check.sentence("AREA: four NUMBERS (0 to 11 each), x, y of its first CELL and of its last one, neither below that of the first.");
        String[] words = {"path ", "wall ", "ground 7 ", "sky 9 ", "harm 1000 "};
        int[] told = {1, 1, 7, 9, 1000};
        int[][] areas = {{2, 3, 4, 5}, {0, 0, 11, 11}, {11, 11, 11, 11}, {3, 3, 3, 3}, {1, 0, 11, 0}, {0, 2, 0, 9}, {5, 11, 8, 11}};
        for (int layer = 0; layer < 5; layer++) {
            for (int[] area : areas) {
                Dark d = new Dark();
                String text = words[layer] + area[0] + " " + area[1] + " " + area[2] + " " + area[3] + ";home 11 0";
                Check.due(text, Scene.text(d, WOOD, text), 0);
                for (int x = 0; x < 12; x++) {
                    for (int y = 0; y < 12; y++) {
                        boolean in = x >= area[0] && x <= area[2] && y >= area[1] && y <= area[3];
                        boolean isHome = layer == 1 && x == 11 && y == 0;
                        Check.due(text + ": cell(0, " + x + ", " + y + ", " + layer + ")", d.cell(0, x, y, layer),
                                in && !isHome ? told[layer] : 0);
                    }
                }
            }
        }
    }

    private static void severalAreas() {
        Check.sentence("no path, no wall, ground, sky, harm 0 but as areas tell (of several the last one; what lies beyond the WOOD"
                + " counts for nothing).");
        Dark d = new Dark();
        Check.due("text", Scene.text(d, WOOD, "ground 7 0 0 3 3;ground 2 1 1 2 2;ground 0 2 2 2 2;sky 1 0 0 3 3;sky 9 0 0 0 0;sky 8 0 0 1 1;"
                + "harm 1000 0 0 0 0;harm 0 0 0 0 0;harm 0 1 1 1 1;harm 5 1 1 1 1;wide 5 5;path 3 3 4 4;path 3 3 3 3;wall 4 4 4 4"), 0);
        int[][] due = {{0, 0, 2, 7}, {1, 1, 2, 2}, {2, 2, 2, 0}, {2, 1, 2, 2}, {3, 3, 2, 7}, {4, 4, 2, 0}, {0, 0, 3, 8}, {1, 1, 3, 8},
            {2, 2, 3, 1}, {4, 3, 3, 0}, {0, 0, 4, 0}, {1, 1, 4, 5}, {2, 2, 4, 0}, {3, 3, 0, 1}, {4, 4, 0, 1}, {2, 3, 0, 0}, {4, 4, 1, 1},
            {3, 3, 1, 0}};
        for (int[] one : due) {
            Check.due("cell(0, " + one[0] + ", " + one[1] + ", " + one[2] + ")", d.cell(0, one[0], one[1], one[2]), one[3]);
        }
        // each AREA of one layer alone
        Dark e = new Dark();
        Scene.text(e, WOOD, "wide 3 3;wall 1 1 1 1");
        int[] walls = {0, 1, 0, 0, 0};
        for (int what = 0; what < 5; what++) {
            Check.due("of a wall: " + what, e.cell(0, 1, 1, what), walls[what]);
            Check.due("of nothing told: " + what, e.cell(0, 2, 2, what), 0);
        }
    }

    private static void beyondTheWood() {
        Check.sentence("no path, no wall, ground, sky, harm 0 but as areas tell (of several the last one; what lies beyond the WOOD"
                + " counts for nothing).");
        // a wall, a path, harm beyond: no way is barred, no parish asks for them
        Dark d = Scene.at("wide 3 2;path 3 0 11 11;path 0 2 11 11;wall 3 0 11 11;wall 0 2 11 11;harm 1000 3 0 11 11;ground 5 3 0 11 11",
                "step 1000", 0, 1, 1);
        Check.due("no CELL", d.cell(0, 3, 0, 0), -2);
        Check.due("no CELL", d.cell(0, 0, 2, 0), -2);
        Check.due("the last column", d.cell(0, 2, 0, 0), 0);
        Check.due("the last row", d.cell(0, 0, 1, 1), 0);
        Check.due("no path to put a sign at", d.parish(0, 0), 0);
        d.act(0);
        d.act(0);
        d.act(0);
        Check.due("the end, as without a wall", d.odds(2, 1, 1), 1000000000);
        Check.due("no harm", d.all(5), 0);
        Check.due("no path", d.all(0), 0);
        // an open CELL beyond is no way around
        Dark e = new Dark();
        Scene.text(e, WOOD, "wide 3 3;wall 1 0 1 2");
        Check.due("no way around", e.cell(0, 2, 0, 9), -1);
    }

    private static void sizes() {
        Check.sentence("wide NUMBER NUMBER (2 to 12 each: columns, rows; 12 and 12 without)");
        int[][] sizes = {{2, 2}, {12, 12}, {2, 12}, {12, 2}, {7, 3}};
        for (int[] size : sizes) {
            Dark d = new Dark();
            Scene.text(d, WOOD, "wide " + size[0] + " " + size[1]);
            Check.due("columns", d.wood(0, 0), size[0]);
            Check.due("rows", d.wood(0, 1), size[1]);
            Check.due("the last CELL", d.cell(0, size[0] - 1, size[1] - 1, 0), 0);
            Check.due("a column more", d.cell(0, size[0], size[1] - 1, 0), -2);
            Check.due("a row more", d.cell(0, size[0] - 1, size[1], 0), -2);
        }
        Dark d = new Dark();
        Scene.text(d, WOOD, "home 1 1");
        Check.due("columns without wide", d.wood(0, 0), 12);
        Check.due("rows without wide", d.wood(0, 1), 12);
    }

    private static void homes() {
        Check.sentence("HOME lies at the last column, row at most, and is no wall.");
        int[][] due = {{4, 3, 4, 3}, {5, 3, 4, 3}, {4, 4, 4, 3}, {11, 11, 4, 3}, {0, 11, 0, 3}, {11, 0, 4, 0}, {3, 2, 3, 2}};
        for (int[] one : due) {
            String home = "home " + one[0] + " " + one[1];
            for (String text : new String[] {home + ";wide 5 4", "wide 5 4;" + home, "wall 0 0 11 11;" + home + ";wide 5 4",
                "wide 5 4;" + home + ";wall 0 0 11 11"}) {
                Dark d = new Dark();
                Check.due(text, Scene.text(d, WOOD, text), 0);
                Check.due(text + ": x of HOME", d.wood(0, 2), one[2]);
                Check.due(text + ": y of HOME", d.wood(0, 3), one[3]);
                Check.due(text + ": no wall", d.cell(0, one[2], one[3], 1), 0);
                Check.due(text + ": FAR", d.cell(0, one[2], one[3], 9), 0);
            }
        }
        // only HOME is freed: where it would lie beyond, and 0 and 0 beside it
        Dark d = Scene.told("wide 5 4;home 11 11;wall 0 0 11 11", "step 1");
        Check.due("another wall", d.cell(0, 3, 3, 1), 1);
        Check.due("another wall", d.cell(0, 4, 2, 1), 1);
        Check.due("the first CELL is a wall", d.cell(0, 0, 0, 1), 1);
        Check.due("no WALK there", d.walk(0, 0, 0, 0, 0), false);
        Check.due("a WALK at HOME", d.walk(0, 0, 4, 3, 0), true);
        Check.sentence("home NUMBER NUMBER (0 to 11 each; 0 and 0 without)");
        Dark e = Scene.told("wall 0 0 11 11", "step 1");
        Check.due("x of HOME without", e.wood(0, 2), 0);
        Check.due("y of HOME without", e.wood(0, 3), 0);
        Check.due("no wall", e.cell(0, 0, 0, 1), 0);
        Check.due("a wall", e.cell(0, 1, 0, 1), 1);
        Check.due("a wall", e.cell(0, 11, 11, 1), 1);
        Check.due("a WALK at HOME", e.walk(0, 0, 0, 0, 0), true);
        Scene.text(e, WOOD, "home 11 11;wall 11 11 11 11");
        Check.due("HOME in the corner", e.wood(1, 2) * 100 + e.wood(1, 3), 1111);
        Check.due("no wall", e.cell(1, 11, 11, 1), 0);
    }

    private static void onceAtMost() {
        Check.sentence("wide, home once at most each.");
        taken(WOOD, "wide 5 5;home 1 1");
        fault(WOOD, "wide 5 5;wide 5 5", 9, 4);
        fault(WOOD, "home 1 1;home 1 1", 9, 4);
        fault(WOOD, "wide 5 5;home 1 1;home 1 1", 18, 4);
        fault(WOOD, "home 1 1;wide 5 5;  wide 5 5", 20, 4);
        fault(WOOD, "wide 5 5;wide", 9, 4);
        taken(WOOD, "path 0 0 0 0;path 0 0 0 0;wall 1 1 1 1;wall 1 1 1 1;ground 1 0 0 0 0;ground 1 0 0 0 0;sky 1 0 0 0 0;sky 1 0 0 0 0;"
                + "harm 1 0 0 0 0;harm 1 0 0 0 0;source 1 0 0;source 1 0 0");
        Check.sentence("drift, feel, see, hear once at most each (20, 800, 800, 800 without).");
        taken(LAW, "drift 1;feel 1;see 1;hear 1;step 1;step 1");
        for (String word : new String[] {"drift", "feel", "see", "hear"}) {
            int place = word.length() + 3;
            fault(LAW, word + " 1;" + word + " 1", place, 4);
            fault(LAW, word + " 1;" + word, place, 4);
            fault(LAW, word + " 1;step 1;" + word + " 1001", place + 7, 4);
        }
        // of a RULE nothing is but once
        taken(RULE, "go;go;left;left;right;right;back;back;sit;sit;strike;strike");
    }

    private static void sources() {
        Check.sentence("source NUMBER NUMBER NUMBER (1 to 40 loud; x, y: 0 to 11 each; 4 sources at most)");
        Dark d = new Dark();
        for (int many = 0; many <= 4; many++) {
            String text = "home 0 0" + ";source 9 0 0".repeat(many);
            Check.due(text, Scene.text(d, WOOD, text), many < 4 ? many : -1);
            if (many == 4) {
                d = new Dark();
                Check.due(text, Scene.text(d, WOOD, text), 0);
            }
            int wood = many % 4;
            Check.due("SOURCES", d.wood(wood, 4), many);
            for (int source = 0; source < 4; source++) {
                Check.due("LOUD of " + source + " of " + many, d.cell(wood, 0, 0, 5 + source), source < many ? 9 : -1);
            }
            Check.due("no such what", d.cell(wood, 0, 0, 10), -2);
        }
        fault(WOOD, Scene.many("source 9 0 0", 5), 52, 4);
        fault(WOOD, Scene.many("source 9 0 0", 4) + ";source", 52, 4);
        fault(WOOD, Scene.many("source 9 0 0", 4) + ";source 41 0 0", 52, 4);
        Check.sentence("SOURCES in the order told, each there also beyond the WOOD;");
        Dark e = new Dark();
        Scene.text(e, WOOD, "source 40 11 11;wide 2 2;source 3 0 1;source 2 1 0;source 1 1 1");
        int[] at00 = {18, 2, 1, 0};
        int[] at11 = {20, 2, 1, 1};
        for (int source = 0; source < 4; source++) {
            Check.due("LOUD of " + source, e.cell(0, 0, 0, 5 + source), at00[source]);
            Check.due("LOUD of " + source, e.cell(0, 1, 1, 5 + source), at11[source]);
        }
    }

    private static void loud() {
        Check.sentence("LOUD at a CELL: its number less the columns and rows to it together, 0 at least.");
        Dark d = new Dark();
        Scene.text(d, WOOD, "source 5 4 3;source 1 11 0;source 40 0 0;source 22 11 11;wall 0 0 11 11");
        for (int x = 0; x < 12; x++) {
            for (int y = 0; y < 12; y += y < 2 || y > 8 ? 1 : 3) {
                int[] due = {5 - Math.abs(x - 4) - Math.abs(y - 3), 1 - (11 - x) - y, 40 - x - y, 22 - (11 - x) - (11 - y)};
                for (int source = 0; source < 4; source++) {
                    Check.due("cell(0, " + x + ", " + y + ", " + (5 + source) + ")", d.cell(0, x, y, 5 + source), Math.max(0, due[source]));
                }
            }
        }
    }

    private static void far() {
        Check.sentence("FAR of a CELL: the least number of steps to HOME over CELLS beside one another (not across) that are no walls;"
                + " none from a wall, or if there is no way.");
        // the longest way there is: a row of walls, open at its right, the next one at its left
        Dark d = new Dark();
        Scene.text(d, WOOD, "wall 0 1 10 1;wall 1 3 11 3;wall 0 5 10 5;wall 1 7 11 7;wall 0 9 10 9");
        Check.due("HOME", d.cell(0, 0, 0, 9), 0);
        Check.due("beside it", d.cell(0, 1, 0, 9), 1);
        Check.due("a wall", d.cell(0, 0, 1, 9), -1);
        Check.due("at the turn", d.cell(0, 11, 1, 9), 12);
        Check.due("below", d.cell(0, 0, 2, 9), 24);
        Check.due("at the last turn", d.cell(0, 11, 9, 9), 11 * 5 + 9);
        Check.due("below", d.cell(0, 0, 11, 9), 11 * 5 + 9 + 13);
        Check.due("the last CELL", d.cell(0, 11, 11, 9), 11 * 5 + 11);
        Check.due("a text of another", Scene.text(d, WOOD, "wide 3 3;home 1 1;wall 1 0 1 0;wall 0 1 0 1;wall 2 1 2 1;wall 1 2 1 2"), 1);
        for (int x = 0; x < 3; x++) {
            for (int y = 0; y < 3; y++) {
                Check.due("not across: " + x + ", " + y, d.cell(1, x, y, 9), x == 1 && y == 1 ? 0 : -1);
            }
        }
        Scene.text(d, WOOD, "wide 3 3;home 1 1");
        int[] due = {2, 1, 2, 1, 0, 1, 2, 1, 2};
        for (int i = 0; i < 9; i++) {
            Check.due("around HOME", d.cell(2, i % 3, i / 3, 9), due[i]);
        }
        Scene.text(d, WOOD, "home 11 11");
        Check.due("the farthest", d.cell(3, 0, 0, 9), 22);
        Check.due("no edge is beside the other one", d.cell(3, 0, 11, 9), 11);
    }

    private static void layers() {
        Check.sentence("Of a CELL of a WOOD what 0: path, 1: wall (1, 0 each), 2: ground, 3: sky, 4: harm, 5 to 8: LOUD of the SOURCE 0 to 3"
                + " (NONE: there is none), 9: FAR (NONE: none). -2 without these.");
        Dark all = new Dark();
        Scene.text(all, WOOD, "wide 2 2;path 1 0 1 0;wall 1 0 1 0;ground 7 1 0 1 0;sky 9 1 0 1 0;harm 1000 1 0 1 0" + ";source 40 1 0".repeat(4));
        int[] full = {1, 1, 7, 9, 1000, 40, 40, 40, 40, -1};
        int[] empty = {0, 0, 0, 0, 0, 39, 39, 39, 39, 0};
        for (int what = 0; what < 10; what++) {
            Check.due("the most of each", all.cell(0, 1, 0, what), full[what]);
            Check.due("the least of each", all.cell(0, 0, 0, what), empty[what]);
        }
        Check.sentence("CELLS (x, y), x to the right, y downwards:");
        Scene.text(all, WOOD, "wide 2 3;ground 1 1 0 1 0;ground 2 0 1 0 1");
        Check.due("x to the right", all.cell(1, 1, 0, 2), 1);
        Check.due("y downwards", all.cell(1, 0, 1, 2), 2);
        Check.due("no row in place of a column", all.cell(1, 2, 0, 2), -2);
        Dark d = new Dark();
        Scene.text(d, WOOD, "wide 4 3");
        Scene.text(d, WOOD, "wide 5 5;source 1 1 1");
        int[][] without = {{-1, 0, 0, 0}, {2, 0, 0, 0}, {0, -1, 0, 0}, {0, 4, 0, 0}, {0, 0, -1, 0}, {0, 0, 3, 0}, {0, 0, 0, -1}, {0, 0, 0, 10},
            {Integer.MIN_VALUE, 0, 0, 0}, {Integer.MAX_VALUE, 0, 0, 0}, {0, 12, 0, 0}, {0, 0, 12, 0}, {4, 0, 0, 0}, {0, 0, 0, 9 + 12}};
        for (int[] one : without) {
            Check.due("cell without these", d.cell(one[0], one[1], one[2], one[3]), -2);
        }
        int[][] with = {{0, 3, 2, 0, 0}, {1, 4, 4, 0, 0}, {1, 1, 1, 5, 1}, {1, 1, 1, 6, -1}, {1, 1, 1, 8, -1}, {0, 0, 0, 5, -1}, {0, 3, 2, 9, 5}};
        for (int[] one : with) {
            Check.due("cell with these", d.cell(one[0], one[1], one[2], one[3]), one[4]);
        }
        Check.sentence("Of a WOOD what 0: columns, 1: rows, 2, 3: x, y of HOME, 4: SOURCES. NONE without these.");
        int[][] none = {{-1, 0}, {2, 0}, {0, -1}, {0, 5}, {4, 0}, {Integer.MIN_VALUE, 0}, {Integer.MAX_VALUE, 0}, {0, Integer.MIN_VALUE}};
        for (int[] one : none) {
            Check.due("wood without these", d.wood(one[0], one[1]), -1);
        }
        Check.due("wood(1, 4)", d.wood(1, 4), 1);
        Check.due("wood(0, 4)", d.wood(0, 4), 0);
    }
}
