/** The TESTS, SUMS, WORDS and FAULTS of Terms I, sentence by sentence. */
public final class GrammarBoundsTest {
    private static final int WOOD = 0;
    private static final int LAW = 1;
    private static final int RULE = 2;

    private GrammarBoundsTest() {
    }

    public static void main(String[] args) {
        clausesOfEachKind();
        tests();
        sums();
        words();
        wordsOfEachKind();
        division();
        goingRound();
        blanks();
        depth();
        together();
        cantStand();
        ends();
        places();
        firstAlongTheText();
        leastOfOnePlace();
        Check.finish();
    }

    private static void taken(int sort, String text) {
        Check.due("text(" + sort + ") \"" + text + "\"", Scene.text(new Dark(), sort, text), 0);
    }

    private static void fault(int sort, String text, int place, int kind) {
        Check.due("text(" + sort + ") \"" + text + "\"", Scene.text(new Dark(), sort, text), Scene.fault(place, kind));
    }

    /** A byte or WORD behind what is told can't stand there. */
    private static void notBehind(int sort, String text, String more) {
        fault(sort, text + more, text.length(), 0);
    }

    private static void clausesOfEachKind() {
        Check.sentence("Of a LAW: step SUM [ if TEST ]");
        taken(LAW, "step 1");
        taken(LAW, "step 1 if 1=1");
        notBehind(LAW, "step 1 ", "1=1");
        notBehind(LAW, "step 1 if 1=1 ", "if 1=1");
        fault(LAW, "step 1 if path", 14, 0);
        fault(LAW, "step if 1=1", 5, 0);
        fault(LAW, "if 1=1", 0, 0);
        fault(LAW, "1", 0, 0);
        Check.sentence("Of a RULE: ACT [ if TEST ], ACT: go, left, right, back, sit, strike (0 to 5).");
        String[] acts = {"go", "left", "right", "back", "sit", "strike"};
        for (String act : acts) {
            taken(RULE, act);
            taken(RULE, act + " if 1=1");
            notBehind(RULE, act + " ", act);
            notBehind(RULE, act + " ", "1");
            fault(RULE, act + "s", 0, 0);
            fault(RULE, act.substring(0, act.length() - 1), 0, 0);
            fault(RULE, act.substring(1), 0, 0);
            fault(RULE, act.toUpperCase(), 0, 0);
        }
        // what each ACT does: way, MATCHES, column, row behind one round; go ahead, up
        Dark d = Scene.told("wide 3 3;home 0 2", "step 1000", acts);
        d.walk(0, 0, 0, 2, 0);
        int[][] due = {{0, 9, 1, 0}, {3, 9, 1, 1}, {1, 9, 1, 1}, {2, 9, 1, 1}, {0, 9, 1, 1}, {0, 8, 1, 1}};
        for (int rule = 0; rule < 6; rule++) {
            int[] whats = {4, 5, 2, 3};
            for (int i = 0; i < 4; i++) {
                Check.due("night by " + acts[rule] + ", what " + whats[i], d.night(rule, 1, 1, 0, 7, 1, whats[i]), due[rule][i]);
            }
        }
        for (String word : new String[] {"wide 5 5", "home 1 1", "path 0 0 0 0", "step 1", "drift 1"}) {
            fault(RULE, word, 0, 0);
        }
        for (String word : new String[] {"go", "left", "sit", "path 0 0 0 0", "wide 5 5"}) {
            fault(LAW, word, 0, 0);
        }
        for (String word : new String[] {"go", "step 1", "drift 1", "feel 1", "see 1", "hear 1", "eyes 1", "sources 1 1 1", "hom 1 1"}) {
            fault(WOOD, word, 0, 0);
        }
    }

    /** Whether a TEST holds by a LAW: how much goes ahead. */
    private static void holds(String test, boolean due) {
        Dark d = Scene.at("wide 3 2", "step 7 if " + test + ";step 8;drift 0", 0, 0, 1);
        d.act(0);
        Check.due(test, d.odds(1, 0, 1), due ? 7000000 : 8000000);
    }

    private static void tests() {
        Check.sentence("TEST: PART { or PART }. PART: FACT { and FACT }. FACT: not FACT | [ TEST ] (these brackets are signs) |"
                + " SUM SIGN SUM, SIGN one of < <= = >= >.");
        int[][] pairs = {{4, 5}, {5, 5}, {6, 5}};
        String[] signs = {"<", "<=", "=", ">=", ">"};
        boolean[][] due = {{true, true, false, false, false}, {false, true, true, true, false}, {false, false, false, true, true}};
        for (int i = 0; i < 3; i++) {
            for (int k = 0; k < 5; k++) {
                holds(pairs[i][0] + signs[k] + pairs[i][1], due[i][k]);
                holds("not " + pairs[i][0] + signs[k] + pairs[i][1], !due[i][k]);
            }
        }
        // all eight of three FACTS, with each joining
        for (int bits = 0; bits < 8; bits++) {
            boolean a = (bits & 1) > 0;
            boolean b = (bits & 2) > 0;
            boolean c = (bits & 4) > 0;
            String f = a ? "1=1" : "1=2";
            String g = b ? "2=2" : "2=3";
            String h = c ? "3=3" : "3=4";
            holds(f + " and " + g + " and " + h, a && b && c);
            holds(f + " or " + g + " or " + h, a || b || c);
            holds(f + " and " + g + " or " + h, a && b || c);
            holds(f + " or " + g + " and " + h, a || b && c);
            holds("[" + f + " or " + g + "] and " + h, (a || b) && c);
            holds(f + " and [" + g + " or " + h + "]", a && (b || c));
            holds("not " + f + " or " + g + " and " + h, !a || b && c);
            holds("not [" + f + " or " + g + "] and " + h, !(a || b) && c);
            holds("not [" + f + " and " + g + " or " + h + "]", !(a && b || c));
            holds("not not " + f + " and not " + g + " or not [" + h + "]", a && !b || !c);
            holds(f + " or " + g + " and " + h + " or " + f + " and " + h, a || b && c || a && c);
        }
        fault(LAW, "step 1 if 1=1 or", 16, 0);
        fault(LAW, "step 1 if 1=1 and", 17, 0);
        fault(LAW, "step 1 if 1=1 and or 1=1", 18, 0);
        fault(LAW, "step 1 if or 1=1", 10, 0);
        fault(LAW, "step 1 if []", 11, 0);
        fault(LAW, "step 1 if [1=1", 14, 0);
        fault(LAW, "step 1 if [1=1;", 14, 0);
        fault(LAW, "step 1 if 1=1]", 13, 0);
        fault(LAW, "step 1 if [[1=1]", 16, 0);
        fault(LAW, "step 1 if not", 13, 0);
        fault(LAW, "step 1 if 1=1 not 1=1", 14, 0);
        fault(LAW, "step 1 if 1=1=1", 13, 0);
        fault(LAW, "step 1 if 1", 11, 0);
        fault(LAW, "step 1 if [1+1]=2", 14, 0);
        for (String sign : new String[] {"==", "<<", "<>", "><", ">>", "=>", "=<", "<==", ">==", "< =", "> ="}) {
            boolean isOne = sign.startsWith("<=") || sign.startsWith(">=");
            fault(LAW, "step 1 if 1" + sign + "1", sign.contains(" ") ? 13 : isOne ? 13 : 12, 0);
        }
        for (String sign : new String[] {"!", "!=", "&", "|", "(", ")", "{", "}", "~", "^", ",", ".", ":", "?", "#", "%"}) {
            fault(LAW, "step 1 if 1" + sign + "1", 11, 0);
        }
    }

    /** What a SUM of a LAW is, by how much goes ahead; it lies from 0 to 1000. */
    private static void sum(String sum, int due) {
        Dark d = Scene.at("wide 3 2;path 0 0 0 0;ground 7 0 0 0 0;sky 9 0 0 0 0;harm 1000 0 0 0 0", "step " + sum + ";drift 0", 0, 0, 1);
        d.act(0);
        Check.due("step " + sum, d.odds(1, 0, 1), due * 1000000);
    }

    private static void sums() {
        Check.sentence("SUM: TERM { (+ or -) TERM }. TERM: VALUE { (* or /) VALUE }.");
        sum("7", 7);
        sum("7+5-3", 9);
        sum("9-5-3", 1);
        sum("9-5+3", 7);
        sum("2*3*4", 24);
        sum("100/5/2", 10);
        sum("100/5*2", 40);
        sum("100*5/2", 250);
        sum("1+2*3-4/2+5", 10);
        sum("20-2*3*2-1", 7);
        sum("20-6/3/2", 19);
        sum("path+ground+sky+harm-1000+eyes", 17);
        sum("harm/sky/ground", 15);
        sum("harm-ground*sky", 937);
        for (String join : new String[] {"+", "-", "*", "/"}) {
            fault(LAW, "step 1" + join, 7, 0);
            fault(LAW, "step " + join + "1", 5, 0);
            fault(LAW, "step 1" + join + join + "1", 7, 0);
            fault(LAW, "step 1" + join + "[1]", 7, 0);
            fault(LAW, "step 1" + join + " if 1=1", 8, 0);
            fault(LAW, "step 1 if 1" + join + "=1", 12, 0);
            fault(LAW, "step 1 if 1=" + join + "1", 12, 0);
        }
    }

    private static void words() {
        Check.sentence("WORDS (small letters, as far as these go on)");
        taken(LAW, "step path");
        fault(LAW, "step paths", 5, 0);
        fault(LAW, "step pat", 5, 0);
        fault(LAW, "step apath", 5, 0);
        fault(LAW, "step Path", 5, 0);
        fault(LAW, "step patH", 5, 0);
        fault(LAW, "step path1", 9, 0);
        fault(LAW, "step path path", 10, 0);
        fault(LAW, "step patheyes", 5, 0);
        fault(LAW, "step 1if1=1and1=1or1=1if", 22, 0);
        taken(LAW, "step1if1=1and1=1or1=1");
        fault(LAW, "step 1 if 1=path1", 16, 0);
        fault(LAW, "step 1 if path=pathor 1=1", 15, 0);
        taken(LAW, "step 1 if path=path or 1=1");
        fault(LAW, "step 1 if notpath=1", 10, 0);
        fault(LAW, "step 1 iff 1=1", 7, 0);
        fault(LAW, "step 1 i", 7, 0);
        fault(LAW, "steppath", 0, 0);
        // bytes beside the small letters are none of them
        for (char beside : new char[] {'`', '{', '@', 'Z', '_'}) {
            fault(LAW, "step path" + beside, 9, 0);
            fault(RULE, "go" + beside, 2, 0);
        }
    }

    private static void wordsOfEachKind() {
        Check.sentence("of a LAW, of a CELL: path (1, 0), ground, sky, harm, eyes; of a RULE: on, at, sure (thousandths, see II), ground,"
                + " sky, loud (as felt, seen, heard last, not what a match showed; 99 each ahead of the first time), steps, matches, eyes,"
                + " path (1 if the last match showed it, 0 if not, 99 ahead of the first one).");
        for (String word : new String[] {"path", "ground", "sky", "harm", "eyes"}) {
            taken(LAW, "step " + word);
            taken(LAW, "step 1 if 1<" + word);
        }
        for (String word : new String[] {"on", "at", "sure", "loud", "steps", "matches", "if", "and", "or", "not", "step", "drift", "far"}) {
            fault(LAW, "step " + word, 5, 0);
            fault(LAW, "step 1+" + word, 7, 0);
            fault(LAW, "step 1 if 1<" + word, 12, 0);
        }
        for (String word : new String[] {"on", "at", "sure", "ground", "sky", "loud", "steps", "matches", "eyes", "path"}) {
            taken(RULE, "go if " + word + ">1");
            taken(RULE, "go if 1<" + word);
        }
        for (String word : new String[] {"harm", "go", "if", "and", "or", "all", "risk", "home", "step", "match"}) {
            fault(RULE, "go if " + word + ">1", 6, 0);
            fault(RULE, "go if 1<" + word, 8, 0);
        }
    }

    private static void division() {
        Check.sentence("/ is towards 0, 0 by 0; all goes round in 64 bits.");
        sum("999/1000", 0);
        sum("1000/1000", 1);
        sum("1999/1000", 1);
        sum("5+7/0", 5);
        sum("5+0/0", 5);
        sum("5+7/eyes", 5);
        sum("7/0*9+4", 4);
        sum("0-7/2+10", 7);
        // by going round a TERM may be below 0: -32768 here
        String below = "32768*65536*65536*65536/65536/65536/65536";
        holds(below + "=0-32768", true);
        holds(below + "/3=0-10922", true);
        holds(below + "/3=0-10923", false);
        holds(below + "/32768=0-1", true);
        holds(below + "/32768/2=0", true);
        holds(below + "/65535=0", true);
        holds(below + "/4681/2=0-3", true);
        holds(below + "/0=0", true);
        holds(below + "/1=0-32768", true);
        holds("32768*65536*65536*65536/2<0", true);
        holds("32768*65536*65536*65536/2=0-16384*65536*65536*65536", true);
        holds("32768*65536*65536*65536/3=0-65536*65536*65536*32768/3", false);
        holds("32768*65536*65536*65536/3*3+2=32768*65536*65536*65536", false);
        holds("32768*65536*65536*65536/3*3-2=32768*65536*65536*65536", true);
    }

    private static void goingRound() {
        Check.sentence("/ is towards 0, 0 by 0; all goes round in 64 bits.");
        String most = "32767*65536*65536*65536+65535*65536*65536+65535*65536+65535";
        holds(most + ">0", true);
        holds(most + "+1<0", true);
        holds(most + "+1=0-" + most, false);
        String half = "16384*65536*65536*65536";
        holds(half + ">0", true);
        holds(half + "+" + half + "<0", true);
        holds(half + "+" + half + "-1>0", true);
        holds("0-" + half + "-" + half + "<0", true);
        holds("0-" + half + "-" + half + "-1>0", true);
        holds(half + "*2<0", true);
        holds(half + "*4=0", true);
        holds(half + "*4+1=1", true);
        holds("65536*65536>99999*2", true);
        holds("65536*65536*65536*32767>65536*65536*65536*32766", true);
        // held to 0 to 1000 behind the going round
        sum(half + "*4+6", 6);
        sum(half + "*2", 0);
        sum(half + "*2-1", 1000);
        sum(half, 1000);
        sum("65536*65536", 1000);
        sum("0-65536*65536", 0);
    }

    private static void blanks() {
        Check.sentence("Blanks (32) stand between as one likes.");
        taken(WOOD, "wide 5 4;home 1 1");
        taken(WOOD, "   wide   5   4   ;   home   1   1   ");
        taken(WOOD, "wide5 4;home1 1;path0 0 0 0;source1 0 0");
        taken(WOOD, " wide5 4");
        taken(LAW, "step1+path*2if[1<=path]and not[path>=2]or path=1;see0");
        taken(LAW, "  step  1  +  path  *  2  if  [  1  <=  path  ]  and  not  [  path  >=  2  ]  or  path  =  1  ;  see  0  ");
        taken(RULE, " go if on>1;sit ");
        fault(WOOD, "wi de 5 4", 0, 0);
        fault(WOOD, "wide 5 4 ; ho me 1 1", 11, 0);
        fault(LAW, "step 1 0", 7, 0);
        fault(LAW, "step 1 i f 1=1", 7, 0);
        fault(LAW, "step 1 if 1 < = 1", 14, 0);
        fault(LAW, "step 1 if 1 > = 1", 14, 0);
        // no other byte is a blank
        for (int one = 0; one < 256; one++) {
            boolean fits = one == ' ' || one == ';';
            Dark d = new Dark();
            int answer = Scene.text(d, RULE, "go" + (char) one + (one == ';' ? "go" : "if 1=1"));
            boolean letter = one >= 'a' && one <= 'z';
            Check.due("go, byte " + one, answer, fits ? 0 : letter ? Scene.fault(0, 0) : Scene.fault(2, 0));
        }
        // two NUMBERS with no blank between are one
        fault(WOOD, "wide 54", 5, 1);
        fault(WOOD, "wide 5", 6, 0);
        fault(WOOD, "wide 1212", 5, 1);
    }

    private static String deep(String opening, int times, String inner, String closing) {
        return opening.repeat(times) + inner + closing.repeat(times);
    }

    private static void depth() {
        Check.sentence("[ and not lie within one another 10 deep at most;");
        String go = "go if ";
        taken(RULE, go + deep("[", 9, "1=1", "]"));
        taken(RULE, go + deep("[", 10, "1=1", "]"));
        fault(RULE, go + deep("[", 11, "1=1", "]"), 16, 2);
        fault(RULE, go + deep("[", 12, "1=1", "]"), 16, 2);
        taken(RULE, go + deep("not ", 10, "1=1", ""));
        fault(RULE, go + deep("not ", 11, "1=1", ""), 46, 2);
        fault(RULE, go + deep("not ", 90, "1=1", ""), 46, 2);
        for (int nots = 0; nots <= 10; nots++) {
            String both = deep("not ", nots, deep("[", 10 - nots, "1=1", "]"), "");
            taken(RULE, go + both);
            taken(RULE, go + deep("[", 10 - nots, deep("not ", nots, "1=1", ""), "]"));
            fault(RULE, go + deep("not ", nots, deep("[", 11 - nots, "1=1", "]"), ""), 6 + 4 * nots + 10 - nots, 2);
            fault(RULE, go + deep("[", 10 - nots, deep("not ", nots, "not 1=1", ""), "]"), 6 + 10 - nots + 4 * nots, 2);
        }
        // behind one another they are not deeper
        taken(RULE, go + deep("[", 10, "1=1", "]") + "and" + deep("[", 10, "1=1", "]") + "or" + deep("[", 10, "1=1", "]"));
        taken(RULE, go + "not 1=1" + " and not 1=1".repeat(12));
        taken(RULE, go + deep("not ", 10, "1=1", "") + " and " + deep("not ", 10, "1=1", "") + " or not 1=1");
        taken(RULE, go + deep("[", 9, "[1=1]and[1=1]or not 1=1", "]"));
        fault(RULE, go + deep("[", 9, "[1=1]and[1=1]or not [1=1]", "]"), 15 + 20, 2);
        fault(RULE, go + deep("[", 9, "[1=1]and[1=1]or not not 1=1", "]"), 15 + 20, 2);
        taken(RULE, go + deep("[", 10, "1=1", "]") + ";" + go + deep("[", 10, "1=1", "]"));
        // and ten deep still tells what it tells
        holds(deep("not ", 9, "1=2", ""), true);
        holds(deep("not ", 10, "1=2", ""), false);
        holds(deep("[", 10, "1=1 and 1=2 or 1=1", "]"), true);
        holds(deep("[1=2 or ", 10, "1=1 and 1=1", "]"), true);
        holds(deep("[1=1 and ", 10, "1=2", "]"), false);
        holds(deep("not[1=2 or ", 5, "1=1 and 1=1", "]"), false);
    }

    private static void together() {
        Check.sentence("at most 60 VALUES and FACTS made of a SIGN, together.");
        taken(LAW, "step " + Scene.sum(60));
        fault(LAW, "step " + Scene.sum(61), 125, 3);
        // n FACTS of two VALUES each are 3 n; 20 of them are enough
        taken(RULE, "go if " + "1=1 or ".repeat(19) + "1=1");
        fault(RULE, "go if " + "1=1 or ".repeat(20) + "1=1", 6 + 140, 3);
        // the 60th is the FACT: at its SIGN; then one VALUE too many; the 61st is the FACT
        fault(RULE, "go if " + Scene.sum(59) + "=1", 6 + 118, 3);
        fault(RULE, "go if " + Scene.sum(60) + "=1", 6 + 119, 3);
        fault(RULE, "go if " + Scene.sum(60) + "<=1", 6 + 119, 3);
        fault(RULE, "go if " + Scene.sum(60) + "  >=1", 6 + 121, 3);
        fault(RULE, "go if " + Scene.sum(61) + "=1", 6 + 120, 3);
        taken(RULE, "go if " + Scene.sum(58) + "=1");
        taken(RULE, "go if 1=" + Scene.sum(58));
        fault(RULE, "go if 1=" + Scene.sum(59), 8 + 116, 3);
        // all that a text tells together
        taken(LAW, "step " + Scene.sum(20) + ";step " + Scene.sum(20) + ";step " + Scene.sum(20));
        fault(LAW, "step " + Scene.sum(20) + ";step " + Scene.sum(20) + ";step " + Scene.sum(21), 45 + 45 + 5 + 40, 3);
        taken(LAW, "drift 1;feel 1;see 1;hear 1;step " + Scene.sum(60));
        // and of the next text again
        Dark d = new Dark();
        for (int i = 0; i < 6; i++) {
            Check.due("60 of each", Scene.text(d, LAW, "step " + Scene.sum(60)), i);
        }
        Dark e = new Dark();
        Check.due("61 of one", Scene.text(e, LAW, "step " + Scene.sum(61)), Scene.fault(125, 3));
        Check.due("60 of the next", Scene.text(e, LAW, "step " + Scene.sum(60)), 0);
        Check.due("60 of a RULE", Scene.text(e, RULE, "go if " + Scene.sum(58) + "=1"), 0);
        // all sixty are reckoned: a LAW of 60, a TEST of 57 VALUES and a FACT behind two of step, one of 19 FACTS
        sum(Scene.sum(60), 60);
        holds("57" + "+1".repeat(55) + "=112", true);
        holds("57" + "+1".repeat(55) + "=111", false);
        holds("1=2 or ".repeat(18) + "1=1", true);
        holds("1=1 and ".repeat(18) + "1=2", false);
    }

    private static void cantStand() {
        Check.sentence("0 a byte or WORD that can't stand there, or the end (behind the last byte);");
        // each byte there is, behind each of some texts: FAULTS where they are due alone
        String[] texts = {"wide 5 4", "step 1", "go"};
        for (int sort = 0; sort < 3; sort++) {
            for (int one = 0; one < 256; one++) {
                boolean wood = sort == WOOD && one >= '0' && one <= '9';
                boolean law = sort == LAW && one >= '0' && one <= '9';
                boolean rule = sort == RULE && one >= 'a' && one <= 'z';
                if (one == ' ' || wood || law || rule) {
                    continue;
                }
                String text = texts[sort] + (char) one;
                boolean goesOn = one == ';' || sort == LAW && (one == '+' || one == '-' || one == '*' || one == '/');
                fault(sort, text, goesOn ? text.length() : text.length() - 1, 0);
                fault(sort, (char) one + texts[sort], 0, 0);
            }
        }
        fault(WOOD, "wide 5 4 home 1 1", 9, 0);
        fault(WOOD, "wide 5 4;;home 1 1", 9, 0);
        fault(WOOD, "wide;", 4, 0);
        fault(WOOD, "wide 5;", 6, 0);
        fault(WOOD, "wide 5 home", 7, 0);
        fault(WOOD, "5 4", 0, 0);
        fault(WOOD, "path 0 0 0;", 10, 0);
        fault(WOOD, "ground path 0 0 0 0", 7, 0);
        fault(RULE, "go on", 3, 0);
        fault(RULE, "go;1", 3, 0);
        fault(RULE, "go;if", 3, 0);
        fault(RULE, "if 1=1", 0, 0);
    }

    /** Each text that is cut off where it can't end. */
    private static void ends() {
        Check.sentence("0 a byte or WORD that can't stand there, or the end (behind the last byte);");
        String[] cut = {"", "wide", "wide 5", "wide 5 4;", "path", "path 1", "path 1 1", "path 1 1 1", "ground", "ground 1", "ground 1 1 1 1",
            "sky 1 1 1 1", "harm 1 1 1 1", "source", "source 1", "source 1 1", "home", "home 1"};
        for (String text : cut) {
            for (int blanks = 0; blanks < 3; blanks++) {
                fault(WOOD, text + " ".repeat(blanks), text.length() + blanks, 0);
            }
        }
        String[] laws = {"step", "step 1+", "step 1-", "step 1*", "step 1/", "step 1 if", "step 1 if 1", "step 1 if 1<", "step 1 if 1<=",
            "step 1 if not", "step 1 if [", "step 1 if [1=1", "step 1 if 1=1 and", "step 1 if 1=1 or", "step 1;", "drift", "feel", "see",
            "hear"};
        for (String text : laws) {
            for (int blanks = 0; blanks < 3; blanks++) {
                fault(LAW, text + " ".repeat(blanks), text.length() + blanks, 0);
            }
        }
        for (String text : new String[] {"go;", "go if", "go if on", "go if on=", "go if on=1 or"}) {
            fault(RULE, text, text.length(), 0);
            fault(RULE, text + " ", text.length() + 1, 0);
        }
    }

    private static void places() {
        Check.sentence("1 a NUMBER of more digits, or not as told; 2 too deep (at the sign that opens, or the word not);"
                + " 3 one VALUE or FACT too many (at its first byte; of a FACT at its SIGN);");
        fault(LAW, "step  123456", 6, 1);
        fault(LAW, "drift  501", 7, 1);
        fault(WOOD, "path 0 0 0  12", 12, 1);
        fault(WOOD, "path 5 0  4 0", 10, 1);
        fault(RULE, "go if " + "[ ".repeat(11) + "1=1" + "]".repeat(11), 26, 2);
        fault(RULE, "go if " + "[ ".repeat(10) + "not 1=1" + "]".repeat(10), 26, 2);
        fault(RULE, "go if " + Scene.sum(60) + " + eyes=1", 128, 3);
        fault(RULE, "go if " + Scene.sum(60) + " >= 1", 126, 3);
        Check.sentence("FAULTS, the first along the text, 1 + 8 * its place and:");
        // each kind behind so many blanks: kind 0 to 4 at the byte that opens it
        String[] texts = {"go?", "go if 123456<1", "go if " + "[".repeat(11), "go if " + Scene.sum(61), Scene.many("go", 13)};
        int[] places = {2, 6, 16, 126, 36};
        for (int kind = 0; kind < 5; kind++) {
            for (int blanks : new int[] {0, 1, 7, 100}) {
                fault(RULE, " ".repeat(blanks) + texts[kind], blanks + places[kind], kind);
            }
        }
        Dark d = new Dark();
        Check.due("at the first byte", Scene.text(d, RULE, "?"), -3);
        Check.due("at the last of 400", Scene.text(d, RULE, "go" + " ".repeat(397) + "?"), -2 - (1 + 8 * 399));
        Check.due("behind 400 bytes", Scene.text(d, RULE, "go" + " ".repeat(397) + ";"), -2 - (1 + 8 * 400));
        Check.due("a NUMBER that ends 400", Scene.text(d, WOOD, "wide 5 " + " ".repeat(391) + "13"), -2 - (1 + 8 * 398 + 1));
        Check.sentence("4 one CLAUSE too many, a fifth source, or a second one of which there is one at most (at its first byte).");
        fault(WOOD, Scene.many("source 1 1 1", 4) + ";  source 1 1 1", 54, 4);
        fault(WOOD, "home 1 1;  home 1 1", 11, 4);
        fault(LAW, "see 1;  see 1", 8, 4);
        fault(LAW, Scene.many("step 1", 12) + ";  step 1", 86, 4);
    }

    private static void firstAlongTheText() {
        Check.sentence("FAULTS, the first along the text, 1 + 8 * its place and:");
        fault(WOOD, "wide 1 1;x", 5, 1);
        fault(WOOD, "wide 5 1 1", 7, 1);
        fault(WOOD, "wide 13 x", 5, 1);
        fault(WOOD, "wide 5 4;wide 1 1", 9, 4);
        fault(WOOD, "home 12 12", 5, 1);
        fault(WOOD, "path 5 5 4 4", 9, 1);
        fault(WOOD, "path 5 5 5 4 #", 11, 1);
        fault(WOOD, "ground 8 12 0 0 0", 7, 1);
        fault(LAW, "step 123456+#", 5, 1);
        fault(LAW, "step 1+#+123456", 7, 0);
        fault(LAW, "drift 501;feel 1001", 6, 1);
        fault(LAW, "step 1 if [1=1 or #", 18, 0);
        fault(RULE, "go if " + "[".repeat(10) + "#" + "[".repeat(2), 16, 0);
        fault(RULE, "go if " + "[".repeat(11) + "#", 16, 2);
        fault(RULE, "go if " + Scene.sum(61) + "=123456", 126, 3);
        fault(RULE, "go if 123456=" + Scene.sum(61), 6, 1);
        fault(RULE, Scene.many("go", 11) + ";goo;go;go", 33, 0);
        fault(RULE, Scene.many("go", 13) + ";goo", 36, 4);
    }

    private static void leastOfOnePlace() {
        Check.sentence("Of one place the least.");
        // 0 ahead of 4: a WORD that opens nothing, the end, another byte, behind as many CLAUSES as can be
        fault(WOOD, Scene.many("path 0 0 0 0", 24) + ";on", 312, 0);
        fault(WOOD, Scene.many("path 0 0 0 0", 24) + ";", 312, 0);
        fault(WOOD, Scene.many("path 0 0 0 0", 24) + ";7", 312, 0);
        fault(LAW, Scene.many("step 1", 12) + ";wide 5 5", 84, 0);
        fault(RULE, Scene.many("go", 12) + ";wide 5 5", 36, 0);
        fault(RULE, Scene.many("go", 12) + ";", 36, 0);
        // 0 and 1 ahead of 3: what can't be a VALUE, or has more digits, behind sixty
        fault(LAW, "step " + Scene.sum(60) + "+loud", 125, 0);
        fault(LAW, "step " + Scene.sum(60) + "+", 125, 0);
        fault(LAW, "step " + Scene.sum(60) + "+123456", 125, 1);
        fault(LAW, "step " + Scene.sum(60) + "+12345", 125, 3);
        fault(LAW, "step " + Scene.sum(60) + "+eyes", 125, 3);
        fault(RULE, "go if " + Scene.sum(60) + "?1", 125, 0);
        fault(RULE, "go if " + Scene.sum(60), 125, 0);
        // 2 alone: too deep with sixty told already
        fault(RULE, "go if " + "1=1 or ".repeat(20) + "[".repeat(11), 146 + 10, 2);
        fault(RULE, "go if " + "1=1 or ".repeat(20) + "[".repeat(10) + "1", 146 + 10, 3);
        // 1 of a source that would be the fifth comes behind it
        fault(WOOD, Scene.many("source 1 1 1", 4) + ";source 0 1 1", 52, 4);
        // a second one, which is one CLAUSE too many, too
        fault(WOOD, "wide 5 5;" + Scene.many("path 0 0 0 0", 23) + ";wide 5 5", 9 + 23 * 13, 4);
    }
}
