import java.util.Arrays;

public final class DarkWood {
    public static final int NONE = -1;

    private static final int NO_ANSWER = -2;
    private static final int SIDE = 12;
    private static final int CELLS = 144;
    private static final int WAYS = 4;
    private static final int WEIGHTS = 576;
    private static final int BYTES = 400;
    private static final int WHOLE = 1000000000;
    private static final int MILLION = 1000000;
    private static final int MOST_ACTS = 200;
    private static final int MOST_EYES = 30;
    private static final int MOST_MATCHES = 9;
    private static final int MOST_SOURCES = 4;
    private static final int MOST_LOUD = 40;
    private static final int MOST_POSTS = 8;
    private static final int MOST_WOODS = 4;
    private static final int MOST_TEXTS = 6;
    private static final int MOST_IMAGES = 4;
    private static final int LONGEST_ROW = 6;

    private static final int GO = 0;
    private static final int LEFT = 1;
    private static final int RIGHT = 2;
    private static final int BACK = 3;
    private static final int SIT = 4;
    private static final int STRIKE = 5;
    private static final int FELT = 6;
    private static final int SEEN = 7;
    private static final int HEARD = 8;

    private final Reader reader = new Reader();
    private final Wood[] woods = new Wood[MOST_WOODS];
    private final Law[] laws = new Law[MOST_TEXTS];
    private final Clauses[] rules = new Clauses[MOST_TEXTS];
    private int woodCount;
    private int lawCount;
    private int ruleCount;
    private final State now = new State();
    private final State[] images = new State[MOST_IMAGES];
    private final Setting setting;
    private final Odds again = new Odds();
    private final Rows rows = new Rows();
    private final Night walker = new Night();
    private final int[] stamps = new int[CELLS];
    private final int[] steps = new int[CELLS];

    public DarkWood() {
        for (int i = 0; i < MOST_WOODS; i++) {
            woods[i] = new Wood();
        }
        for (int i = 0; i < MOST_TEXTS; i++) {
            laws[i] = new Law();
            rules[i] = new Clauses();
        }
        for (int i = 0; i < MOST_IMAGES; i++) {
            images[i] = new State();
        }
        setting = new Setting(woods[0], laws[0]);
    }

    public int feed(int a, int b, int c, int d, int e) {
        if (reader.length + 20 > BYTES) {
            return NONE;
        }
        reader.put(a);
        reader.put(b);
        reader.put(c);
        reader.put(d);
        reader.put(e);
        return reader.length;
    }

    public int end(int n) {
        if (n < 0 || n > reader.length) {
            return NONE;
        }
        reader.length = n;
        return n;
    }

    public int text(int sort) {
        int number = NONE;
        if (sort == 0 && woodCount < MOST_WOODS) {
            reader.readWood(woods[woodCount]);
            number = woodCount;
            woodCount += reader.fault == 0 ? 1 : 0;
        } else if (sort == 1 && lawCount < MOST_TEXTS) {
            reader.readLaw(laws[lawCount]);
            number = lawCount;
            lawCount += reader.fault == 0 ? 1 : 0;
        } else if (sort == 2 && ruleCount < MOST_TEXTS) {
            reader.readRule(rules[ruleCount]);
            number = ruleCount;
            ruleCount += reader.fault == 0 ? 1 : 0;
        } else {
            return NONE;
        }
        reader.length = 0;
        return reader.fault == 0 ? number : -2 - reader.fault;
    }

    public int cell(int wood, int x, int y, int what) {
        if (wood < 0 || wood >= woodCount || what < 0 || what > 9) {
            return NO_ANSWER;
        }
        int cell = woods[wood].cellAt(x, y);
        return cell == NONE ? NO_ANSWER : woods[wood].told(cell, what);
    }

    public int wood(int wood, int what) {
        if (wood < 0 || wood >= woodCount) {
            return NONE;
        }
        Wood of = woods[wood];
        switch (what) {
            case 0:
                return of.columns;
            case 1:
                return of.rows;
            case 2:
                return of.home % SIDE;
            case 3:
                return of.home / SIDE;
            case 4:
                return of.sources;
            default:
                return NONE;
        }
    }

    public boolean walk(int wood, int law, int x, int y, int way) {
        if (wood < 0 || wood >= woodCount || law < 0 || law >= lawCount || way < 0 || way >= WAYS) {
            return false;
        }
        int cell = woods[wood].openAt(x, y);
        if (cell == NONE) {
            return false;
        }
        now.begin(wood, law, cell, way);
        setting.take(woods[wood], laws[law]);
        return true;
    }

    public int act(int act) {
        if (act < GO || act > SIT || !now.keep(act, 0, 0, setting)) {
            return NONE;
        }
        return now.odds.steps;
    }

    public int felt(int ground) {
        if (ground < 0 || ground > 7 || !now.keep(FELT, ground, 0, setting)) {
            return NONE;
        }
        return now.acts;
    }

    public int seen(int sky) {
        if (sky < 0 || sky > 9 || !now.keep(SEEN, sky, 0, setting)) {
            return NONE;
        }
        return now.acts;
    }

    public int heard(int source, int loud) {
        if (source < 0 || source >= setting.wood.sources || loud < 0 || loud > MOST_LOUD
                || !now.keep(HEARD, source, loud, setting)) {
            return NONE;
        }
        return now.acts;
    }

    public int strike(int ground, boolean path) {
        if (ground < 0 || ground > 7 || now.odds.matches < 1
                || !now.keep(STRIKE, ground, path ? 1 : 0, setting)) {
            return NONE;
        }
        return now.odds.matches;
    }

    public int odds(int x, int y, int way) {
        int cell = setting.wood.cellAt(x, y);
        if (!now.begun || cell == NONE || way < NONE || way >= WAYS) {
            return NONE;
        }
        return (int) now.odds.weightAt(cell, way);
    }

    public int all(int what) {
        if (!now.begun) {
            return NONE;
        }
        Odds mine = now.odds;
        switch (what) {
            case 0:
                return (int) mine.onPath(setting.wood);
            case 1:
                return (int) mine.weightAt(setting.wood.home, NONE);
            case 2:
                return (int) mine.weightAt(mine.surest(setting.wood), NONE);
            case 3:
                return mine.surest(setting.wood) % SIDE;
            case 4:
                return mine.surest(setting.wood) / SIDE;
            case 5:
                return (int) mine.risk(setting.wood);
            case 6:
                return (int) mine.inArea(0, CELLS - 1, NONE);
            case 7:
            case 8:
            case 9:
            case 10:
                return (int) mine.inArea(0, CELLS - 1, what - 7);
            default:
                return NONE;
        }
    }

    public long row(int n, int code, int what) {
        if (!now.begun || n < 1 || n > LONGEST_ROW || code < 0 || code >= 1 << 2 * n || what < 0 || what > 1) {
            return NONE;
        }
        rows.begin(now.odds, setting.wood);
        for (int i = 0; i < n; i++) {
            rows.step(i, code >> 2 * i & 3, setting);
        }
        return what == 0 ? rows.homes[n] : rows.harms[n];
    }

    public int soon(int n) {
        if (!now.begun || n < 1 || n >= LONGEST_ROW) {
            return NONE;
        }
        return rows.best(now.odds, n, setting);
    }

    public int left(int bar) {
        if (!now.begun || !isBar(bar)) {
            return NONE;
        }
        for (int i = 0; i < now.acts; i++) {
            if (now.on[i] < bar) {
                return i;
            }
        }
        return NO_ANSWER;
    }

    private static boolean isBar(int bar) {
        return bar >= 1 && bar <= 1000;
    }

    public int fork(int x, int y, int toX, int toY, int way) {
        if (!now.begun || x < 0 || y < 0 || toX < x || toY < y || toX >= SIDE || toY >= SIDE
                || way < NONE || way >= WAYS) {
            return NONE;
        }
        return (int) now.odds.inArea(y * SIDE + x, toY * SIDE + toX, way);
    }

    public int remember(int x, int y, int bar) {
        int cell = setting.wood.cellAt(x, y);
        if (!now.begun || cell == NONE || !isBar(bar)) {
            return NONE;
        }
        for (int size = 0; size <= 4; size++) {
            for (int sorts = 0; sorts < 16; sorts++) {
                if (Integer.bitCount(sorts) == size) {
                    now.doAgain(sorts, again, setting);
                    if (again.weightAt(cell, NONE) / MILLION >= bar) {
                        return sorts;
                    }
                }
            }
        }
        return NO_ANSWER;
    }

    public int tells() {
        if (!now.begun) {
            return NONE;
        }
        long sum = 0;
        for (int ground = 0; ground < 8; ground++) {
            sum += mostShown(ground, 0) + mostShown(ground, 1);
        }
        return (int) sum;
    }

    private long mostShown(int ground, int path) {
        long most = 0;
        for (int cell = 0; cell < CELLS; cell++) {
            if (setting.wood.ground[cell] == ground && setting.wood.path[cell] == path) {
                most = Math.max(most, now.odds.weightAt(cell, NONE));
            }
        }
        return most;
    }

    public int aim(int what, int line, int bar) {
        if (!now.begun || what < 0 || what > 1 || line < 0 || line >= SIDE || !isBar(bar)) {
            return NONE;
        }
        for (int k = 0; k <= SIDE; k++) {
            int least = Math.max(0, line + 1 - k);
            long beyond = 0;
            if (least < SIDE) {
                beyond = now.odds.inArea(what == 0 ? least : least * SIDE, CELLS - 1, NONE);
            }
            if (beyond / MILLION >= bar) {
                return k;
            }
        }
        return NO_ANSWER;
    }

    public int look(int n) {
        if (!now.begun || n < 0 || n > 6) {
            return NONE;
        }
        Arrays.fill(stamps, NONE);
        long most = 0;
        for (int code = 0; code < 1 << 2 * n; code++) {
            most = Math.max(most, overWay(n, code));
        }
        return (int) most;
    }

    // A code's digits are ways here; its stamp keeps a CELL from counting twice.
    private long overWay(int n, int code) {
        int cell = setting.wood.home;
        stamps[cell] = code;
        long sum = now.odds.weightAt(cell, NONE);
        for (int i = 0; i < n; i++) {
            int next = setting.wood.beside[cell * WAYS + (code >> 2 * i & 3)];
            if (next == NONE) {
                break;
            }
            if (stamps[next] != code) {
                stamps[next] = code;
                sum += now.odds.weightAt(next, NONE);
            }
            cell = next;
        }
        return sum;
    }

    public boolean post(int k, int x, int y) {
        if (k < 0 || k >= MOST_POSTS || x < 0 || x >= SIDE || y < 0 || y >= SIDE) {
            return false;
        }
        now.posts[k] = y * SIDE + x;
        return true;
    }

    public int parish(int wood, int r) {
        if (wood < 0 || wood >= woodCount || r < 0 || r > 40) {
            return NONE;
        }
        Wood in = woods[wood];
        Arrays.fill(stamps, 0);
        for (int k = 0; k < MOST_POSTS; k++) {
            reach(in, k, r);
        }
        int best = NO_ANSWER;
        for (int set = 0; set < 1 << MOST_POSTS; set++) {
            if ((best == NO_ANSWER || Integer.bitCount(set) < Integer.bitCount(best)) && isEnough(in, set)) {
                best = set;
            }
        }
        return best;
    }

    // The stamps hold for each CELL the set of POSTS that are near enough.
    private void reach(Wood in, int k, int r) {
        int post = now.posts[k];
        if (post == NONE || in.openAt(post % SIDE, post / SIDE) == NONE) {
            return;
        }
        in.measure(post, steps);
        for (int cell = 0; cell < CELLS; cell++) {
            if (steps[cell] != NONE && steps[cell] <= r) {
                stamps[cell] |= 1 << k;
            }
        }
    }

    private boolean isEnough(Wood in, int set) {
        for (int cell = 0; cell < CELLS; cell++) {
            boolean needsOne = in.path[cell] == 1 && in.openAt(cell % SIDE, cell / SIDE) != NONE;
            if (needsOne && (stamps[cell] & set) == 0) {
                return false;
            }
        }
        return true;
    }

    public int night(int rule, int x, int y, int way, int seed, int n, int what) {
        int start = startOf(x, y, way, seed, n);
        if (rule < 0 || rule >= ruleCount || start == NONE || what < 0 || what > 6) {
            return NONE;
        }
        walker.play(setting, rules[rule], start, seed, n, 1);
        switch (what) {
            case 0:
                return walker.ended;
            case 1:
                return walker.rounds;
            case 2:
                return walker.cell % SIDE;
            case 3:
                return walker.cell / SIDE;
            case 4:
                return walker.way;
            case 5:
                return walker.odds.matches;
            default:
                return walker.odds.sure(setting.wood);
        }
    }

    // NONE if a NIGHT can't begin so, else the CELL's number times the ways, and the way.
    private int startOf(int x, int y, int way, int seed, int n) {
        if (!now.begun || way < 0 || way >= WAYS || seed < 0 || n < 1 || n > 99) {
            return NONE;
        }
        int cell = setting.wood.openAt(x, y);
        return cell == NONE ? NONE : cell * WAYS + way;
    }

    public int nights(int rule, int x, int y, int way, int seed, int n, int times, int what) {
        int start = startOf(x, y, way, seed, n);
        if (rule < 0 || rule >= ruleCount || start == NONE || times < 1 || times > 9 || what < 0 || what > 2) {
            return NONE;
        }
        walker.play(setting, rules[rule], start, seed, n, times);
        if (what == 0) {
            return walker.homes;
        }
        return what == 1 ? walker.falls : walker.allRounds;
    }

    public int finest(int x, int y, int way, int seed, int n, int times) {
        int start = startOf(x, y, way, seed, n);
        if (start == NONE || times < 1 || times > 9) {
            return NONE;
        }
        int best = NO_ANSWER;
        int homes = 0;
        int falls = 0;
        for (int i = 0; i < ruleCount; i++) {
            walker.play(setting, rules[i], start, seed, n, times);
            if (best == NO_ANSWER || walker.homes > homes || walker.homes == homes && walker.falls < falls) {
                best = i;
                homes = walker.homes;
                falls = walker.falls;
            }
        }
        return best;
    }

    public int count(int what) {
        switch (what) {
            case 0:
                return woodCount;
            case 1:
                return lawCount;
            case 2:
                return ruleCount;
            case 3:
                return now.begun ? now.acts : NONE;
            case 4:
                return now.begun ? now.odds.steps : NONE;
            case 5:
                return now.begun ? now.odds.matches : NONE;
            case 6:
                return now.begun ? now.odds.eyes : NONE;
            case 7:
                return reader.length;
            default:
                return NONE;
        }
    }

    public int image(int k) {
        if (k < 0 || k >= MOST_IMAGES) {
            return NONE;
        }
        images[k].copyFrom(now);
        images[k].made = true;
        return now.acts;
    }

    public int back(int k) {
        if (k < 0 || k >= MOST_IMAGES || !images[k].made) {
            return NONE;
        }
        now.copyFrom(images[k]);
        if (now.begun) {
            setting.take(woods[now.wood], laws[now.law]);
        }
        return now.acts;
    }

    /** The TAPE, and what reads a text from it, sign by sign, up to its first FAULT. */
    private static final class Reader {
        private static final int STOP = -2;
        private static final int END = -1;
        private static final int NUMBER = '0';
        private static final int WORD = 'a';
        private static final int AT_MOST = 'l';
        private static final int AT_LEAST = 'g';
        private static final int AND = '&';
        private static final int OR = '|';
        private static final int NOT = '!';
        private static final int CANT_STAND = 0;
        private static final int BAD_NUMBER = 1;
        private static final int TOO_DEEP = 2;
        private static final int ONE_PART_TOO_MANY = 3;
        private static final int ONE_CLAUSE_TOO_MANY = 4;
        private static final int MOST_DIGITS = 5;
        private static final int MOST_DEEP = 10;
        private static final int MOST_PARTS = 60;
        private static final int MOST_OF_A_WOOD = 24;
        private static final String OF_A_WOOD = "wide home path wall ground sky harm source";
        private static final String OF_A_LAW = "drift feel see hear step";
        private static final String OF_A_RULE = "go left right back sit strike";
        private static final String LAW_VALUES = "path ground sky harm eyes";
        private static final String RULE_VALUES = "on at sure ground sky loud steps matches eyes path";

        private final int[] tape = new int[BYTES];
        int length;
        int fault;
        private int sign;
        private int place;
        private int behind;
        private int parts;
        private String values = LAW_VALUES;
        private Clauses into = new Clauses();

        void put(int four) {
            for (int shift = 24; shift >= 0 && length < BYTES; shift -= 8) {
                tape[length] = four >> shift & 255;
                length++;
            }
        }

        private void start() {
            fault = 0;
            behind = 0;
            parts = 0;
            next();
        }

        // Behind a FAULT no sign comes any more, so that every loop over signs ends.
        private void next() {
            if (fault != 0) {
                sign = STOP;
                return;
            }
            int at = behind;
            while (at < length && tape[at] == ' ') {
                at++;
            }
            place = at;
            if (at >= length) {
                sign = END;
                behind = at;
                return;
            }
            sign = tape[at];
            at++;
            if (sign >= '0' && sign <= '9') {
                sign = NUMBER;
                while (at < length && tape[at] >= '0' && tape[at] <= '9') {
                    at++;
                }
            } else if (sign >= 'a' && sign <= 'z') {
                sign = WORD;
                while (at < length && tape[at] >= 'a' && tape[at] <= 'z') {
                    at++;
                }
            } else if ((sign == '<' || sign == '>') && at < length && tape[at] == '=') {
                sign = sign == '<' ? AT_MOST : AT_LEAST;
                at++;
            }
            behind = at;
        }

        private void refuse(int kind) {
            if (fault == 0) {
                fault = 1 + 8 * place + kind;
            }
            sign = STOP;
        }

        private int wordIn(String words) {
            if (sign != WORD) {
                return NONE;
            }
            int which = 0;
            int at = place;
            boolean same = true;
            for (int i = 0; i <= words.length(); i++) {
                if (i == words.length() || words.charAt(i) == ' ') {
                    if (same && at == behind) {
                        return which;
                    }
                    which++;
                    at = place;
                    same = true;
                } else {
                    same = same && at < behind && at < BYTES && tape[at] == words.charAt(i);
                    at++;
                }
            }
            return NONE;
        }

        // Of more digits than may be, the first ones alone.
        private int digits() {
            int number = 0;
            for (int at = place; at < behind && at < place + MOST_DIGITS && at < BYTES; at++) {
                number = number * 10 + tape[at] - '0';
            }
            return number;
        }

        private int number(int least, int most) {
            if (sign != NUMBER) {
                refuse(CANT_STAND);
                return least;
            }
            int number = digits();
            if (behind - place > MOST_DIGITS || number < least || number > most) {
                refuse(BAD_NUMBER);
                return least;
            }
            next();
            return number;
        }

        private int opened(String words, int told, int most) {
            int which = wordIn(words);
            if (which == NONE) {
                refuse(CANT_STAND);
            } else if (told >= most) {
                refuse(ONE_CLAUSE_TOO_MANY);
            }
            return fault == 0 ? which : NONE;
        }

        private boolean goesOn() {
            if (sign == ';') {
                next();
                return true;
            }
            if (sign != END) {
                refuse(CANT_STAND);
            }
            return false;
        }

        void readWood(Wood wood) {
            start();
            wood.clear();
            boolean goesOn = true;
            int once = 0;
            for (int told = 0; goesOn && told <= MOST_OF_A_WOOD; told++) {
                int which = opened(OF_A_WOOD, told, MOST_OF_A_WOOD);
                boolean again = which >= 0 && which < 2 && (once >> which & 1) == 1;
                if (again || which == 7 && wood.sources >= MOST_SOURCES) {
                    refuse(ONE_CLAUSE_TOO_MANY);
                }
                next();
                if (which == 0) {
                    wood.columns = number(2, SIDE);
                    wood.rows = number(2, SIDE);
                } else if (which == 1) {
                    int x = number(0, SIDE - 1);
                    wood.home = number(0, SIDE - 1) * SIDE + x;
                } else if (which == 7) {
                    int loud = number(1, MOST_LOUD);
                    int x = number(0, SIDE - 1);
                    wood.addSource(loud, x, number(0, SIDE - 1));
                } else if (which != NONE) {
                    readArea(wood, which);
                }
                once |= which >= 0 ? 1 << which : 0;
                goesOn = goesOn();
            }
            if (fault == 0) {
                wood.settle();
            }
        }

        private void readArea(Wood wood, int which) {
            int number = 1;
            int[] layer = wood.path;
            if (which == 3) {
                layer = wood.wall;
            } else if (which == 4) {
                layer = wood.ground;
                number = number(0, 7);
            } else if (which == 5) {
                layer = wood.sky;
                number = number(0, 9);
            } else if (which == 6) {
                layer = wood.harm;
                number = number(0, 1000);
            }
            int x = number(0, SIDE - 1);
            int y = number(0, SIDE - 1);
            int toX = number(x, SIDE - 1);
            int toY = number(y, SIDE - 1);
            if (fault == 0) {
                for (int row = y; row <= toY; row++) {
                    Arrays.fill(layer, row * SIDE + x, row * SIDE + toX + 1, number);
                }
            }
        }

        void readLaw(Law law) {
            start();
            law.clear();
            into = law.steps;
            values = LAW_VALUES;
            boolean goesOn = true;
            int once = 0;
            for (int told = 0; goesOn && told <= Clauses.MOST; told++) {
                int which = opened(OF_A_LAW, told, Clauses.MOST);
                if (which >= 0 && which < 4 && (once >> which & 1) == 1) {
                    refuse(ONE_CLAUSE_TOO_MANY);
                }
                next();
                if (which == 0) {
                    law.drift = number(0, 500);
                } else if (which == 1) {
                    law.feel = number(0, 1000);
                } else if (which == 2) {
                    law.see = number(0, 1000);
                } else if (which == 3) {
                    law.hear = number(0, 1000);
                } else if (which == 4) {
                    into.openOne();
                    sum();
                    if (opensTest()) {
                        test(0);
                    }
                    into.closeOne();
                }
                once |= which >= 0 ? 1 << which : 0;
                goesOn = goesOn();
            }
        }

        void readRule(Clauses rule) {
            start();
            rule.clear();
            into = rule;
            values = RULE_VALUES;
            boolean goesOn = true;
            for (int told = 0; goesOn && told <= Clauses.MOST; told++) {
                int which = opened(OF_A_RULE, told, Clauses.MOST);
                next();
                if (which != NONE) {
                    into.openOne();
                    into.add(NUMBER, which);
                    if (opensTest()) {
                        test(0);
                    }
                    into.closeOne();
                }
                goesOn = goesOn();
            }
        }

        private boolean opensTest() {
            into.openTest();
            if (wordIn("if") == NONE) {
                return false;
            }
            next();
            return true;
        }

        // An or waits until the ands behind it are joined.
        private void test(int depth) {
            boolean orWaits = false;
            fact(depth);
            for (int i = 0; i < BYTES && wordIn("and or") != NONE; i++) {
                int join = wordIn("and or");
                if (join == 1 && orWaits) {
                    into.add(OR, 0);
                }
                orWaits = orWaits || join == 1;
                next();
                fact(depth);
                if (join == 0) {
                    into.add(AND, 0);
                }
            }
            if (orWaits) {
                into.add(OR, 0);
            }
        }

        private void fact(int depth) {
            int deep = depth;
            for (int i = 0; i <= MOST_DEEP && wordIn("not") == 0; i++) {
                deep = deeper(deep);
            }
            if (sign == '[') {
                int inner = deeper(deep);
                if (inner <= MOST_DEEP) {
                    test(inner);
                }
                if (sign == ']') {
                    next();
                } else {
                    refuse(CANT_STAND);
                }
            } else {
                sum();
                int compare = sign;
                if (compare == '<' || compare == AT_MOST || compare == '=' || compare == AT_LEAST || compare == '>') {
                    countPart();
                    next();
                    sum();
                    addComparison(compare);
                } else {
                    refuse(CANT_STAND);
                }
            }
            for (int i = depth; i < deep; i++) {
                into.add(NOT, 0);
            }
        }

        private void addComparison(int compare) {
            if (compare == AT_MOST) {
                into.add('>', 0);
                into.add(NOT, 0);
            } else if (compare == AT_LEAST) {
                into.add('<', 0);
                into.add(NOT, 0);
            } else {
                into.add(compare, 0);
            }
        }

        private int deeper(int depth) {
            if (depth >= MOST_DEEP) {
                refuse(TOO_DEEP);
            } else {
                next();
            }
            return depth + 1;
        }

        private void countPart() {
            if (parts >= MOST_PARTS) {
                refuse(ONE_PART_TOO_MANY);
            }
            parts++;
        }

        // A + or - waits until the * and / behind it are joined.
        private void sum() {
            int waits = 0;
            value();
            for (int i = 0; i < BYTES && (sign == '+' || sign == '-' || sign == '*' || sign == '/'); i++) {
                int join = sign;
                boolean joinsFirst = join == '*' || join == '/';
                if (!joinsFirst && waits != 0) {
                    into.add(waits, 0);
                }
                next();
                value();
                if (joinsFirst) {
                    into.add(join, 0);
                } else {
                    waits = join;
                }
            }
            if (waits != 0) {
                into.add(waits, 0);
            }
        }

        private void value() {
            int word = wordIn(values);
            if (sign == NUMBER) {
                if (behind - place > MOST_DIGITS) {
                    refuse(BAD_NUMBER);
                }
                into.add(NUMBER, digits());
            } else if (word != NONE) {
                into.add(WORD, word);
            } else {
                refuse(CANT_STAND);
            }
            countPart();
            next();
        }
    }

    /** CLAUSES of a SUM and a TEST each, held as signs behind what they join. */
    private static final class Clauses {
        static final int MOST = 12;
        // More than this never waits: a few numbers for each of the ten depths of a TEST.
        private static final int HIGHEST = 64;

        private final int[] code = new int[BYTES];
        private final int[] sums = new int[MOST];
        private final int[] tests = new int[MOST];
        private final int[] ends = new int[MOST];
        private final long[] stack = new long[HIGHEST];
        private int length;
        private int told;

        void clear() {
            length = 0;
            told = 0;
        }

        void add(int sign, int number) {
            if (length < BYTES) {
                code[length] = sign | number << 8;
                length++;
            }
        }

        void openOne() {
            if (told < MOST) {
                sums[told] = length;
            }
        }

        void openTest() {
            if (told < MOST) {
                tests[told] = length;
            }
        }

        void closeOne() {
            if (told < MOST) {
                ends[told] = length;
                told++;
            }
        }

        // The SUM of the first CLAUSE without a TEST, or whose TEST holds.
        long first(long[] words, long otherwise) {
            for (int i = 0; i < told; i++) {
                if (tests[i] == ends[i] || worth(tests[i], ends[i], words) != 0) {
                    return worth(sums[i], tests[i], words);
                }
            }
            return otherwise;
        }

        private long worth(int from, int to, long[] words) {
            int height = 0;
            for (int i = from; i < to && i < BYTES; i++) {
                int sign = code[i] & 255;
                int number = code[i] >> 8;
                boolean isValue = sign == Reader.NUMBER || sign == Reader.WORD && number < words.length;
                if (isValue && height < HIGHEST) {
                    stack[height] = sign == Reader.NUMBER ? number : words[number];
                    height++;
                } else if (sign == Reader.NOT && height > 0) {
                    stack[height - 1] = 1 - stack[height - 1];
                } else if (height > 1) {
                    height--;
                    long other = stack[height];
                    long one = stack[height - 1];
                    switch (sign) {
                        case '+':
                            one += other;
                            break;
                        case '-':
                            one -= other;
                            break;
                        case '*':
                            one *= other;
                            break;
                        case '/':
                            one = other == 0 ? 0 : one / other;
                            break;
                        case Reader.AND:
                            one &= other;
                            break;
                        case Reader.OR:
                            one |= other;
                            break;
                        case '<':
                            one = one < other ? 1 : 0;
                            break;
                        case '>':
                            one = one > other ? 1 : 0;
                            break;
                        default:
                            one = one == other ? 1 : 0;
                    }
                    stack[height - 1] = one;
                }
            }
            return height > 0 ? stack[0] : 0;
        }
    }

    /** A LAW: how one steps, and how far feet, eyes and ears are to be trusted. */
    private static final class Law {
        final Clauses steps = new Clauses();
        int drift;
        int feel;
        int see;
        int hear;

        void clear() {
            steps.clear();
            drift = 20;
            feel = 800;
            see = 800;
            hear = 800;
        }

        int seeing(int eyes) {
            return Math.max(100, see * eyes / MOST_EYES);
        }
    }

    /** A WOOD; the number of a CELL is its row times twelve, and its column. */
    private static final class Wood {
        int columns;
        int rows;
        int home;
        int sources;
        // LOUD of each SOURCE at each CELL.
        private final int[] loud = new int[MOST_SOURCES * CELLS];
        final int[] path = new int[CELLS];
        final int[] wall = new int[CELLS];
        final int[] ground = new int[CELLS];
        final int[] sky = new int[CELLS];
        final int[] harm = new int[CELLS];
        final int[] far = new int[CELLS];
        // For each CELL and way the CELL that one comes to, or NONE.
        final int[] beside = new int[WEIGHTS];
        // The CELLS that are no walls: no WEIGHT is anywhere else.
        final int[] open = new int[CELLS];
        int opens;
        private final int[] queue = new int[CELLS];

        void clear() {
            columns = SIDE;
            rows = SIDE;
            home = 0;
            sources = 0;
            Arrays.fill(path, 0);
            Arrays.fill(wall, 0);
            Arrays.fill(ground, 0);
            Arrays.fill(sky, 0);
            Arrays.fill(harm, 0);
        }

        void addSource(int number, int x, int y) {
            if (sources < MOST_SOURCES) {
                for (int cell = 0; cell < CELLS; cell++) {
                    int steps = Math.abs(cell % SIDE - x) + Math.abs(cell / SIDE - y);
                    loud[sources * CELLS + cell] = Math.max(0, number - steps);
                }
                sources++;
            }
        }

        // What hangs on the whole text: wide and home may stand behind the areas.
        void settle() {
            int x = Math.min(home % SIDE, columns - 1);
            int y = Math.min(home / SIDE, rows - 1);
            home = y * SIDE + x;
            wall[home] = 0;
            opens = 0;
            for (int cell = 0; cell < CELLS; cell++) {
                int column = cell % SIDE;
                int row = cell / SIDE;
                if (openAt(column, row) != NONE) {
                    open[opens] = cell;
                    opens++;
                }
                beside[cell * WAYS] = openAt(column, row - 1);
                beside[cell * WAYS + 1] = openAt(column + 1, row);
                beside[cell * WAYS + 2] = openAt(column, row + 1);
                beside[cell * WAYS + 3] = openAt(column - 1, row);
            }
            measure(home, far);
        }

        int cellAt(int x, int y) {
            return x < 0 || y < 0 || x >= columns || y >= rows ? NONE : y * SIDE + x;
        }

        int openAt(int x, int y) {
            int cell = cellAt(x, y);
            return cell == NONE || wall[cell] == 1 ? NONE : cell;
        }

        // From a CELL that is no wall: the steps to each CELL.
        void measure(int from, int[] out) {
            Arrays.fill(out, NONE);
            out[from] = 0;
            queue[0] = from;
            int queued = 1;
            for (int i = 0; i < queued && i < CELLS; i++) {
                int cell = queue[i];
                for (int way = 0; way < WAYS; way++) {
                    int next = beside[cell * WAYS + way];
                    if (next != NONE && out[next] == NONE && queued < CELLS) {
                        out[next] = out[cell] + 1;
                        queue[queued] = next;
                        queued++;
                    }
                }
            }
        }

        int loudAt(int source, int cell) {
            return source < 0 || source >= sources ? NONE : loud[source * CELLS + cell];
        }

        int told(int cell, int what) {
            switch (what) {
                case 0:
                    return path[cell];
                case 1:
                    return wall[cell];
                case 2:
                    return ground[cell];
                case 3:
                    return sky[cell];
                case 4:
                    return harm[cell];
                case 9:
                    return far[cell];
                default:
                    return loudAt(what - 5, cell);
            }
        }
    }

    /** A WOOD and a LAW together, with what is found out of both. */
    private static final class Setting {
        Wood wood;
        Law law;
        final long[] chances = new long[CELLS];
        final long[] spare = new long[WEIGHTS];
        private final int[] ahead = new int[(MOST_EYES + 1) * CELLS];
        private final boolean[] isReady = new boolean[MOST_EYES + 1];
        private final long[] words = new long[5];

        Setting(Wood wood, Law law) {
            this.wood = wood;
            this.law = law;
        }

        void take(Wood newWood, Law newLaw) {
            wood = newWood;
            law = newLaw;
            for (int i = 0; i <= MOST_EYES; i++) {
                isReady[i] = false;
            }
        }

        // NIGHTS ask the same again and again, so what the LAW tells is kept for each of the EYES.
        void ready(int eyes) {
            if (isReady[eyes]) {
                return;
            }
            isReady[eyes] = true;
            for (int i = 0; i < wood.opens; i++) {
                int cell = wood.open[i];
                words[0] = wood.path[cell];
                words[1] = wood.ground[cell];
                words[2] = wood.sky[cell];
                words[3] = wood.harm[cell];
                words[4] = eyes;
                ahead[eyes * CELLS + cell] = (int) Math.max(0, Math.min(1000, law.steps.first(words, 900)));
            }
        }

        // Behind ready for these EYES, of a CELL that is no wall.
        int aheadAt(int cell, int eyes) {
            return ahead[eyes * CELLS + cell];
        }

        int asideBy(int ahead) {
            return Math.min(law.drift, (1000 - ahead) / 2);
        }

        // What a SIGN tells of each CELL.
        void tell(int kind, int first, int second, int eyes) {
            int seeing = law.seeing(eyes);
            for (int i = 0; i < wood.opens; i++) {
                int cell = wood.open[i];
                if (kind == FELT) {
                    chances[cell] = wood.ground[cell] == first ? law.feel : (1000 - law.feel) / 7;
                } else if (kind == SEEN) {
                    chances[cell] = wood.sky[cell] == first ? seeing : (1000 - seeing) / 9;
                } else if (kind == HEARD) {
                    int apart = Math.abs(wood.loudAt(first, cell) - second);
                    chances[cell] = apart == 0 ? law.hear : (1000 - law.hear) / (apart == 1 ? 4 : 80);
                } else {
                    chances[cell] = wood.ground[cell] == first && wood.path[cell] == second ? 1000 : 0;
                }
            }
        }
    }

    /** The WEIGHTS of one who walks, with his STEPS, MATCHES and EYES. */
    private static final class Odds {
        final long[] weights = new long[WEIGHTS];
        int steps;
        int matches;
        int eyes;

        void begin(int cell, int way) {
            Arrays.fill(weights, 0);
            weights[cell * WAYS + way] = WHOLE;
            steps = 0;
            matches = MOST_MATCHES;
            eyes = 0;
        }

        void copyFrom(Odds other) {
            System.arraycopy(other.weights, 0, weights, 0, WEIGHTS);
            steps = other.steps;
            matches = other.matches;
            eyes = other.eyes;
        }

        // False, and nothing happens, for what is refused.
        boolean happens(int kind, int first, int second, Setting setting) {
            if (kind > SIT) {
                setting.tell(kind, first, second, eyes);
                boolean stands = weigh(setting);
                if (stands && kind == STRIKE) {
                    steps++;
                    matches--;
                    eyes = 0;
                }
                return stands;
            }
            if (kind == GO) {
                setting.ready(eyes);
                go(setting);
            } else if (kind != SIT) {
                turn(turned(0, kind), setting.wood);
            }
            steps++;
            eyes = Math.min(MOST_EYES, eyes + 1);
            return true;
        }

        // Which way one looks behind a left, right or back.
        static int turned(int way, int kind) {
            int quarters = kind == BACK ? 2 : kind == LEFT ? 3 : 1;
            return (way + quarters) % WAYS;
        }

        private void turn(int quarters, Wood wood) {
            for (int i = 0; i < wood.opens; i++) {
                int cell = wood.open[i] * WAYS;
                for (int k = 0; k < quarters; k++) {
                    long last = weights[cell + 3];
                    weights[cell + 3] = weights[cell + 2];
                    weights[cell + 2] = weights[cell + 1];
                    weights[cell + 1] = weights[cell];
                    weights[cell] = last;
                }
            }
        }

        private void go(Setting setting) {
            Wood wood = setting.wood;
            long[] next = setting.spare;
            Arrays.fill(next, 0);
            for (int i = 0; i < wood.opens; i++) {
                int cell = wood.open[i];
                int ahead = setting.aheadAt(cell, eyes);
                int aside = setting.asideBy(ahead);
                for (int way = 0; way < WAYS; way++) {
                    long weight = weights[cell * WAYS + way];
                    // Most are 0 for long, and need no reckoning.
                    if (weight == 0) {
                        continue;
                    }
                    long forth = weight * ahead / 1000;
                    long side = weight * aside / 1000;
                    next[cell * WAYS + way] += weight - forth - 2 * side;
                    next[comeTo(wood, cell, way, way)] += forth;
                    next[comeTo(wood, cell, way, (way + 3) % WAYS)] += side;
                    next[comeTo(wood, cell, way, (way + 1) % WAYS)] += side;
                }
            }
            System.arraycopy(next, 0, weights, 0, WEIGHTS);
        }

        private static int comeTo(Wood wood, int cell, int way, int along) {
            int next = wood.beside[cell * WAYS + along];
            return next == NONE ? cell * WAYS + way : next * WAYS + along;
        }

        private boolean weigh(Setting setting) {
            Wood wood = setting.wood;
            long[] next = setting.spare;
            Arrays.fill(next, 0);
            long sum = 0;
            for (int i = 0; i < wood.opens; i++) {
                int cell = wood.open[i];
                for (int at = cell * WAYS; at < cell * WAYS + WAYS; at++) {
                    next[at] = weights[at] * setting.chances[cell] / 1000;
                    sum += next[at];
                }
            }
            if (sum <= 0) {
                return false;
            }
            for (int i = 0; i < WEIGHTS; i++) {
                weights[i] = next[i] * WHOLE / sum;
            }
            return true;
        }

        long weightAt(int cell, int way) {
            int at = cell * WAYS;
            if (way >= 0 && way < WAYS) {
                return weights[at + way];
            }
            return weights[at] + weights[at + 1] + weights[at + 2] + weights[at + 3];
        }

        long inArea(int cell, int toCell, int way) {
            long sum = 0;
            for (int y = cell / SIDE; y <= toCell / SIDE && y < SIDE; y++) {
                for (int x = cell % SIDE; x <= toCell % SIDE; x++) {
                    sum += weightAt(y * SIDE + x, way);
                }
            }
            return sum;
        }

        long onPath(Wood wood) {
            long sum = 0;
            for (int i = 0; i < wood.opens; i++) {
                sum += wood.path[wood.open[i]] == 1 ? weightAt(wood.open[i], NONE) : 0;
            }
            return sum;
        }

        int surest(Wood wood) {
            int surest = wood.home;
            long most = 0;
            for (int i = 0; i < wood.opens; i++) {
                long mine = weightAt(wood.open[i], NONE);
                if (mine > most) {
                    most = mine;
                    surest = wood.open[i];
                }
            }
            return surest;
        }

        // SURE by 1000000.
        int sure(Wood wood) {
            return (int) (weightAt(surest(wood), NONE) / MILLION);
        }

        long risk(Wood wood) {
            long sum = 0;
            for (int i = 0; i < wood.opens; i++) {
                int cell = wood.open[i];
                sum += weightAt(cell, NONE) * wood.harm[cell] / 1000;
            }
            return sum;
        }

        long takeFrom(int cell) {
            long taken = weightAt(cell, NONE);
            Arrays.fill(weights, cell * WAYS, cell * WAYS + WAYS, 0);
            return taken;
        }
    }

    /** The WALK and the POSTS, of now or of an IMAGE. */
    private static final class State {
        boolean made;
        boolean begun;
        int wood;
        int law;
        private int startCell;
        private int startWay;
        int acts;
        final Odds odds = new Odds();
        // Each ACT: its kind, and the two numbers told with it, eight bits each.
        private final int[] diary = new int[MOST_ACTS];
        final int[] on = new int[MOST_ACTS];
        final int[] posts = new int[MOST_POSTS];

        State() {
            Arrays.fill(posts, NONE);
        }

        void begin(int newWood, int newLaw, int cell, int way) {
            begun = true;
            wood = newWood;
            law = newLaw;
            startCell = cell;
            startWay = way;
            acts = 0;
            odds.begin(cell, way);
        }

        boolean keep(int kind, int first, int second, Setting setting) {
            if (!begun || acts >= MOST_ACTS || !odds.happens(kind, first, second, setting)) {
                return false;
            }
            diary[acts] = kind | first << 8 | second << 16;
            on[acts] = (int) (odds.onPath(setting.wood) / MILLION);
            acts++;
            return true;
        }

        void doAgain(int sorts, Odds again, Setting setting) {
            again.begin(startCell, startWay);
            for (int i = 0; i < acts; i++) {
                int kind = diary[i] & 255;
                int sort = kind == STRIKE ? 3 : kind - FELT;
                boolean wanted = kind <= SIT || (sorts >> sort & 1) == 1;
                boolean stands = wanted && again.happens(kind, diary[i] >> 8 & 255, diary[i] >> 16, setting);
                if (!stands && kind == STRIKE) {
                    again.happens(SIT, 0, 0, setting);
                }
            }
        }

        void copyFrom(State other) {
            begun = other.begun;
            wood = other.wood;
            law = other.law;
            startCell = other.startCell;
            startWay = other.startWay;
            acts = other.acts;
            odds.copyFrom(other.odds);
            System.arraycopy(other.diary, 0, diary, 0, MOST_ACTS);
            System.arraycopy(other.on, 0, on, 0, MOST_ACTS);
            System.arraycopy(other.posts, 0, posts, 0, MOST_POSTS);
        }
    }

    /** ROWS of ACTS, gone through without the WALK; level i is what stands behind i ACTS. */
    private static final class Rows {
        private final Odds[] levels = new Odds[LONGEST_ROW + 1];
        final long[] homes = new long[LONGEST_ROW + 1];
        final long[] harms = new long[LONGEST_ROW + 1];

        Rows() {
            for (int i = 0; i <= LONGEST_ROW; i++) {
                levels[i] = new Odds();
            }
        }

        void begin(Odds odds, Wood wood) {
            levels[0].copyFrom(odds);
            homes[0] = levels[0].takeFrom(wood.home);
            harms[0] = 0;
        }

        void step(int level, int act, Setting setting) {
            Odds odds = levels[level + 1];
            odds.copyFrom(levels[level]);
            homes[level + 1] = homes[level];
            harms[level + 1] = harms[level];
            if (act == GO) {
                harms[level + 1] += odds.risk(setting.wood);
            }
            odds.happens(act, 0, 0, setting);
            if (act == GO) {
                homes[level + 1] += odds.takeFrom(setting.wood.home);
            }
        }

        // The first ACT is the highest digit of the index, so that rows with one beginning follow one another.
        int best(Odds odds, int n, Setting setting) {
            begin(odds, setting.wood);
            int best = NONE;
            long mostHomes = 0;
            long leastHarms = 0;
            for (int index = 0; index < 1 << 2 * n; index++) {
                int level = n - 1;
                for (int rest = index; level > 0 && (rest & 3) == 0; rest >>= 2) {
                    level--;
                }
                for (; level < n; level++) {
                    step(level, index >> 2 * (n - 1 - level) & 3, setting);
                }
                int code = turnedAround(index, n);
                boolean same = homes[n] == mostHomes && harms[n] == leastHarms;
                if (best == NONE || homes[n] > mostHomes || homes[n] == mostHomes && harms[n] < leastHarms
                        || same && code < best) {
                    best = code;
                    mostHomes = homes[n];
                    leastHarms = harms[n];
                }
            }
            return best;
        }

        private static int turnedAround(int index, int n) {
            int code = 0;
            for (int i = 0; i < n; i++) {
                code = code << 2 | index >> 2 * i & 3;
            }
            return code;
        }
    }

    /** One who walks by a RULE, with where he is truly. */
    private static final class Night {
        private static final int ENDS_AT_HOME = 1;
        private static final int ENDS_FALLEN = 2;
        private static final int GROUND = 3;
        private static final int SKY = 4;
        private static final int LOUD = 5;
        private static final int PATH = 9;
        private static final int NOT_YET = 99;

        final Odds odds = new Odds();
        // In the order of a RULE's WORDS.
        private final long[] words = new long[10];
        private long seed;
        int cell;
        int way;
        int rounds;
        int ended;
        int homes;
        int falls;
        int allRounds;

        void play(Setting setting, Clauses rule, int start, int firstSeed, int n, int times) {
            seed = firstSeed;
            homes = 0;
            falls = 0;
            allRounds = 0;
            for (int i = 0; i < times; i++) {
                begin(start / WAYS, start % WAYS);
                for (int left = n; left > 0 && ended == 0; left--) {
                    round(setting, rule);
                }
                homes += ended == ENDS_AT_HOME ? 1 : 0;
                falls += ended == ENDS_FALLEN ? 1 : 0;
                allRounds += rounds;
            }
        }

        private void begin(int startCell, int startWay) {
            odds.begin(startCell, startWay);
            cell = startCell;
            way = startWay;
            rounds = 0;
            ended = 0;
            Arrays.fill(words, NOT_YET);
        }

        private int draw() {
            seed = (seed * 1103515245L + 12345L) % 2147483648L;
            return (int) (seed / 65536);
        }

        private void round(Setting setting, Clauses rule) {
            rounds++;
            takeStock(setting.wood);
            int act = (int) rule.first(words, SIT);
            if (act == STRIKE) {
                strikeOne(setting);
            } else {
                if (act == GO) {
                    goTruly(setting);
                } else if (act != SIT) {
                    way = Odds.turned(way, act);
                }
                odds.happens(act, 0, 0, setting);
            }
            if (cell == setting.wood.home) {
                ended = ENDS_AT_HOME;
            } else if (act == GO && draw() % 1000 < setting.wood.harm[cell]) {
                ended = ENDS_FALLEN;
            } else {
                perceive(setting);
            }
        }

        private void takeStock(Wood wood) {
            words[0] = odds.onPath(wood) / MILLION;
            words[1] = odds.weightAt(wood.home, NONE) / MILLION;
            words[2] = odds.sure(wood);
            words[6] = odds.steps;
            words[7] = odds.matches;
            words[8] = odds.eyes;
        }

        private void strikeOne(Setting setting) {
            int ground = setting.wood.ground[cell];
            int path = setting.wood.path[cell];
            if (odds.matches > 0 && odds.happens(STRIKE, ground, path, setting)) {
                words[PATH] = path;
            } else {
                odds.happens(SIT, 0, 0, setting);
            }
        }

        private void goTruly(Setting setting) {
            setting.ready(odds.eyes);
            int ahead = setting.aheadAt(cell, odds.eyes);
            int aside = setting.asideBy(ahead);
            int drawn = draw() % 1000;
            int along = way;
            if (drawn >= ahead + 2 * aside) {
                return;
            }
            if (drawn >= ahead) {
                along = (way + (drawn < ahead + aside ? 3 : 1)) % WAYS;
            }
            int next = setting.wood.beside[cell * WAYS + along];
            if (next != NONE) {
                cell = next;
                way = along;
            }
        }

        private void perceive(Setting setting) {
            Wood wood = setting.wood;
            Law law = setting.law;
            int ground = wood.ground[cell];
            if (draw() % 1000 >= law.feel) {
                ground = (ground + 1 + draw() % 7) % 8;
            }
            if (odds.happens(FELT, ground, 0, setting)) {
                words[GROUND] = ground;
            }
            int sky = wood.sky[cell];
            if (draw() % 1000 >= law.seeing(odds.eyes)) {
                sky = (sky + 1 + draw() % 9) % 10;
            }
            if (odds.happens(SEEN, sky, 0, setting)) {
                words[SKY] = sky;
            }
            if (wood.sources > 0) {
                int loud = wood.loudAt(0, cell);
                if (draw() % 1000 >= law.hear) {
                    loud = draw() % 2 == 0 ? Math.max(0, loud - 1) : Math.min(MOST_LOUD, loud + 1);
                }
                if (odds.happens(HEARD, 0, loud, setting)) {
                    words[LOUD] = loud;
                }
            }
        }
    }
}
