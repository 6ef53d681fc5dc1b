import java.util.ArrayList;
import java.util.HashMap;
import java.util.HashSet;
import java.util.List;
import java.util.Map;
import java.util.Set;

/** DOC.md once more, slowly and in another way: what the class is compared with on random runs. */
final class Model {
    static final int[] DX = {0, 1, 0, -1};
    static final int[] DY = {-1, 0, 1, 0};

    interface Sum {
        long of(Map<String, Long> words);
    }

    interface Test {
        boolean of(Map<String, Long> words);
    }

    static final class Fault extends RuntimeException {
        private static final long serialVersionUID = 1L;
        final int number;

        Fault(int place, int kind) {
            number = 1 + 8 * place + kind;
        }
    }

    static final class Clause {
        Sum sum;
        Test test = words -> true;
    }

    static final class AWood {
        int columns = 12;
        int rows = 12;
        int homeX;
        int homeY;
        final int[][][] layers = new int[5][12][12];
        final List<int[]> sources = new ArrayList<>();

        boolean has(int x, int y) {
            return x >= 0 && y >= 0 && x < columns && y < rows;
        }

        boolean isOpen(int x, int y) {
            return has(x, y) && layers[1][x][y] == 0;
        }

        int loud(int source, int x, int y) {
            int[] one = sources.get(source);
            return Math.max(0, one[0] - Math.abs(one[1] - x) - Math.abs(one[2] - y));
        }

        /** Steps from a CELL to another one, by spreading again and again; -1 if there is no way. */
        int steps(int x, int y, int toX, int toY) {
            if (!isOpen(x, y) || !isOpen(toX, toY)) {
                return -1;
            }
            boolean[][] reached = new boolean[12][12];
            reached[x][y] = true;
            for (int steps = 0; steps <= 144; steps++) {
                if (reached[toX][toY]) {
                    return steps;
                }
                boolean[][] more = new boolean[12][12];
                for (int i = 0; i < columns; i++) {
                    for (int j = 0; j < rows; j++) {
                        more[i][j] = reached[i][j];
                        for (int way = 0; way < 4 && isOpen(i, j); way++) {
                            int m = i + DX[way];
                            int n = j + DY[way];
                            more[i][j] |= has(m, n) && reached[m][n];
                        }
                    }
                }
                reached = more;
            }
            return -1;
        }
    }

    static final class ALaw {
        final List<Clause> steps = new ArrayList<>();
        int drift = 20;
        int feel = 800;
        int see = 800;
        int hear = 800;
    }

    /** Reads a text character by character. */
    static final class Parser {
        final String text;
        int at;
        int parts;
        List<String> values;

        Parser(String text) {
            this.text = text;
        }

        void blanks() {
            while (at < text.length() && text.charAt(at) == ' ') {
                at++;
            }
        }

        char peek() {
            blanks();
            return at < text.length() ? text.charAt(at) : '\uffff';
        }

        String word() {
            blanks();
            int to = at;
            while (to < text.length() && text.charAt(to) >= 'a' && text.charAt(to) <= 'z') {
                to++;
            }
            return text.substring(at, to);
        }

        boolean takes(String word) {
            if (!word().equals(word)) {
                return false;
            }
            at += word.length();
            return true;
        }

        boolean takesSign(String sign) {
            blanks();
            if (!text.startsWith(sign, at)) {
                return false;
            }
            at += sign.length();
            return true;
        }

        Fault fault(int kind) {
            blanks();
            return new Fault(at, kind);
        }

        String digits() {
            blanks();
            int to = at;
            while (to < text.length() && Character.isDigit(text.charAt(to)) && text.charAt(to) < 128) {
                to++;
            }
            return text.substring(at, to);
        }

        int number(int least, int most) {
            String digits = digits();
            if (digits.isEmpty()) {
                throw fault(0);
            }
            if (digits.length() > 5 || Integer.parseInt(digits) < least || Integer.parseInt(digits) > most) {
                throw fault(1);
            }
            at += digits.length();
            return Integer.parseInt(digits);
        }

        String clause(String words, int told, int most, Map<String, Integer> many) {
            String word = word();
            if (word.isEmpty() || !List.of(words.split(" ")).contains(word)) {
                throw fault(0);
            }
            int limit = List.of("wide", "home", "drift", "feel", "see", "hear").contains(word) ? 1 : word.equals("source") ? 4 : 99;
            if (told >= most || many.getOrDefault(word, 0) >= limit) {
                throw fault(4);
            }
            many.merge(word, 1, Integer::sum);
            at += word.length();
            return word;
        }

        boolean goesOn() {
            if (peek() == ';') {
                at++;
                return true;
            }
            if (at < text.length()) {
                throw fault(0);
            }
            return false;
        }

        AWood wood() {
            AWood wood = new AWood();
            Map<String, Integer> many = new HashMap<>();
            List<String> layers = List.of("path", "wall", "ground", "sky", "harm");
            int[] most = {1, 1, 7, 9, 1000};
            int told = 0;
            do {
                String word = clause("wide path wall ground sky harm source home", told++, 24, many);
                if (word.equals("wide")) {
                    wood.columns = number(2, 12);
                    wood.rows = number(2, 12);
                } else if (word.equals("home")) {
                    wood.homeX = number(0, 11);
                    wood.homeY = number(0, 11);
                } else if (word.equals("source")) {
                    wood.sources.add(new int[] {number(1, 40), number(0, 11), number(0, 11)});
                } else {
                    int layer = layers.indexOf(word);
                    int value = layer < 2 ? 1 : number(0, most[layer]);
                    int x = number(0, 11);
                    int y = number(0, 11);
                    int toX = number(x, 11);
                    int toY = number(y, 11);
                    for (int i = x; i <= toX; i++) {
                        for (int j = y; j <= toY; j++) {
                            wood.layers[layer][i][j] = value;
                        }
                    }
                }
            } while (goesOn());
            wood.homeX = Math.min(wood.homeX, wood.columns - 1);
            wood.homeY = Math.min(wood.homeY, wood.rows - 1);
            wood.layers[1][wood.homeX][wood.homeY] = 0;
            return wood;
        }

        ALaw law() {
            values = List.of("path", "ground", "sky", "harm", "eyes");
            ALaw law = new ALaw();
            Map<String, Integer> many = new HashMap<>();
            int told = 0;
            do {
                switch (clause("step drift feel see hear", told++, 12, many)) {
                    case "drift" -> law.drift = number(0, 500);
                    case "feel" -> law.feel = number(0, 1000);
                    case "see" -> law.see = number(0, 1000);
                    case "hear" -> law.hear = number(0, 1000);
                    default -> {
                        Clause clause = new Clause();
                        clause.sum = sum();
                        condition(clause);
                        law.steps.add(clause);
                    }
                }
            } while (goesOn());
            return law;
        }

        List<Clause> rule() {
            values = List.of("on", "at", "sure", "ground", "sky", "loud", "steps", "matches", "eyes", "path");
            List<String> acts = List.of("go", "left", "right", "back", "sit", "strike");
            List<Clause> rule = new ArrayList<>();
            do {
                int act = acts.indexOf(clause("go left right back sit strike", rule.size(), 12, new HashMap<>()));
                Clause clause = new Clause();
                clause.sum = words -> act;
                condition(clause);
                rule.add(clause);
            } while (goesOn());
            return rule;
        }

        void condition(Clause clause) {
            if (takes("if")) {
                clause.test = test(0);
            }
        }

        Test test(int depth) {
            Test one = part(depth);
            if (!takes("or")) {
                return one;
            }
            Test rest = test(depth);
            return words -> one.of(words) || rest.of(words);
        }

        Test part(int depth) {
            Test one = fact(depth);
            if (!takes("and")) {
                return one;
            }
            Test rest = part(depth);
            return words -> one.of(words) && rest.of(words);
        }

        Test fact(int depth) {
            boolean opens = word().equals("not") || peek() == '[';
            if (opens && depth == 10) {
                throw fault(2);
            }
            if (takes("not")) {
                Test inner = fact(depth + 1);
                return words -> !inner.of(words);
            }
            if (takesSign("[")) {
                Test inner = test(depth + 1);
                if (!takesSign("]")) {
                    throw fault(0);
                }
                return inner;
            }
            Sum left = sum();
            for (String sign : List.of("<=", ">=", "<", "=", ">")) {
                int before = at;
                if (takesSign(sign)) {
                    if (parts == 60) {
                        at = before;
                        throw fault(3);
                    }
                    parts++;
                    Sum right = sum();
                    return words -> compare(left.of(words), sign, right.of(words));
                }
            }
            throw fault(0);
        }

        static boolean compare(long left, String sign, long right) {
            int order = Long.compare(left, right);
            return sign.contains("<") && order < 0 || sign.contains(">") && order > 0 || sign.contains("=") && order == 0;
        }

        Sum sum() {
            Sum sum = term();
            while (peek() == '+' || peek() == '-') {
                boolean more = peek() == '+';
                at++;
                Sum left = sum;
                Sum right = term();
                sum = words -> more ? left.of(words) + right.of(words) : left.of(words) - right.of(words);
            }
            return sum;
        }

        Sum term() {
            Sum term = value();
            while (peek() == '*' || peek() == '/') {
                boolean times = peek() == '*';
                at++;
                Sum left = term;
                Sum right = value();
                term = words -> {
                    long one = left.of(words);
                    long other = right.of(words);
                    return times ? one * other : other == 0 ? 0 : one / other;
                };
            }
            return term;
        }

        Sum value() {
            String digits = digits();
            String word = word();
            if (digits.isEmpty() && !values.contains(word)) {
                throw fault(0);
            }
            if (digits.length() > 5) {
                throw fault(1);
            }
            if (parts == 60) {
                throw fault(3);
            }
            parts++;
            at += digits.length() + word.length();
            if (digits.isEmpty()) {
                return words -> words.get(word);
            }
            long number = Long.parseLong(digits);
            return words -> number;
        }
    }

    /** One who walks, in a WOOD by a LAW. */
    static final class Walker {
        final AWood wood;
        final ALaw law;
        long[][][] weights = new long[12][12][4];
        int steps;
        int matches = 9;
        int eyes;

        Walker(AWood wood, ALaw law, int x, int y, int way) {
            this.wood = wood;
            this.law = law;
            weights[x][y][way] = 1000000000;
        }

        Walker copy() {
            Walker copy = new Walker(wood, law, 0, 0, 0);
            for (int x = 0; x < 12; x++) {
                for (int y = 0; y < 12; y++) {
                    copy.weights[x][y] = weights[x][y].clone();
                }
            }
            copy.steps = steps;
            copy.matches = matches;
            copy.eyes = eyes;
            return copy;
        }

        int ahead(int x, int y) {
            Map<String, Long> words = new HashMap<>();
            words.put("path", (long) wood.layers[0][x][y]);
            words.put("ground", (long) wood.layers[2][x][y]);
            words.put("sky", (long) wood.layers[3][x][y]);
            words.put("harm", (long) wood.layers[4][x][y]);
            words.put("eyes", (long) eyes);
            for (Clause clause : law.steps) {
                if (clause.test.of(words)) {
                    long sum = clause.sum.of(words);
                    return sum < 0 ? 0 : sum > 1000 ? 1000 : (int) sum;
                }
            }
            return 900;
        }

        int aside(int ahead) {
            return Math.min(law.drift, (1000 - ahead) / 2);
        }

        void doAct(int act) {
            long[][][] next = new long[12][12][4];
            for (int x = 0; x < 12; x++) {
                for (int y = 0; y < 12; y++) {
                    for (int way = 0; way < 4; way++) {
                        long weight = weights[x][y][way];
                        if (weight == 0) {
                            continue;
                        }
                        if (act == 0) {
                            int a = ahead(x, y);
                            int d = aside(a);
                            long moved = 0;
                            for (int turn : new int[] {0, 3, 1}) {
                                long part = weight * (turn == 0 ? a : d) / 1000;
                                int to = (way + turn) % 4;
                                if (wood.isOpen(x + DX[to], y + DY[to])) {
                                    next[x + DX[to]][y + DY[to]][to] += part;
                                    moved += part;
                                }
                            }
                            next[x][y][way] += weight - moved;
                        } else {
                            next[x][y][(way + new int[] {0, 3, 1, 2, 0}[act]) % 4] += weight;
                        }
                    }
                }
            }
            weights = next;
            steps++;
            eyes = Math.min(30, eyes + 1);
        }

        int seeing() {
            return Math.max(100, law.see * eyes / 30);
        }

        int chance(int kind, int first, int second, int x, int y) {
            if (kind == 5) {
                return wood.layers[2][x][y] == first && wood.layers[0][x][y] == second ? 1000 : 0;
            }
            if (kind == 6) {
                return wood.layers[2][x][y] == first ? law.feel : (1000 - law.feel) / 7;
            }
            if (kind == 7) {
                return wood.layers[3][x][y] == first ? seeing() : (1000 - seeing()) / 9;
            }
            int loud = wood.loud(first, x, y);
            if (loud == second) {
                return law.hear;
            }
            return (1000 - law.hear) / (loud == second + 1 || loud == second - 1 ? 4 : 80);
        }

        boolean sign(int kind, int first, int second) {
            long[][][] next = new long[12][12][4];
            long sum = 0;
            for (int x = 0; x < wood.columns; x++) {
                for (int y = 0; y < wood.rows; y++) {
                    for (int way = 0; way < 4; way++) {
                        next[x][y][way] = weights[x][y][way] * chance(kind, first, second, x, y) / 1000;
                        sum += next[x][y][way];
                    }
                }
            }
            if (sum == 0) {
                return false;
            }
            for (long[][] column : next) {
                for (long[] cell : column) {
                    for (int way = 0; way < 4; way++) {
                        cell[way] = cell[way] * 1000000000 / sum;
                    }
                }
            }
            weights = next;
            if (kind == 5) {
                steps++;
                matches--;
                eyes = 0;
            }
            return true;
        }

        long odds(int x, int y) {
            long[] four = weights[x][y];
            return four[0] + four[1] + four[2] + four[3];
        }

        long on() {
            long sum = 0;
            for (int x = 0; x < 12; x++) {
                for (int y = 0; y < 12; y++) {
                    sum += wood.layers[0][x][y] * odds(x, y);
                }
            }
            return sum;
        }

        int[] surest() {
            int[] best = {0, 0};
            for (int y = 0; y < 12; y++) {
                for (int x = 0; x < 12; x++) {
                    if (odds(x, y) > odds(best[0], best[1])) {
                        best = new int[] {x, y};
                    }
                }
            }
            return best;
        }

        long sure() {
            return odds(surest()[0], surest()[1]);
        }

        long risk() {
            long sum = 0;
            for (int x = 0; x < 12; x++) {
                for (int y = 0; y < 12; y++) {
                    sum += odds(x, y) * wood.layers[4][x][y] / 1000;
                }
            }
            return sum;
        }

        long takeHome() {
            long taken = odds(wood.homeX, wood.homeY);
            weights[wood.homeX][wood.homeY] = new long[4];
            return taken;
        }
    }

    /** The WALK and the POSTS. */
    static final class State {
        Walker walker;
        int startX;
        int startY;
        int startWay;
        List<int[]> acts = new ArrayList<>();
        List<Long> on = new ArrayList<>();
        int[][] posts = new int[8][];

        State copy() {
            State copy = new State();
            copy.walker = walker == null ? null : walker.copy();
            copy.startX = startX;
            copy.startY = startY;
            copy.startWay = startWay;
            copy.acts = new ArrayList<>(acts);
            copy.on = new ArrayList<>(on);
            copy.posts = posts.clone();
            return copy;
        }
    }

    private String tape = "";
    private final List<AWood> woods = new ArrayList<>();
    private final List<ALaw> laws = new ArrayList<>();
    private final List<List<Clause>> rules = new ArrayList<>();
    private State now = new State();
    private final State[] images = new State[4];

    int feed(int a, int b, int c, int d, int e) {
        if (tape.length() > 380) {
            return -1;
        }
        for (int number : new int[] {a, b, c, d, e}) {
            for (int shift = 24; shift >= 0; shift -= 8) {
                tape += (char) (number >>> shift & 255);
            }
        }
        return tape.length();
    }

    int end(int n) {
        if (n < 0 || n > tape.length()) {
            return -1;
        }
        tape = tape.substring(0, n);
        return n;
    }

    int text(int sort) {
        List<?> list = sort == 0 ? woods : sort == 1 ? laws : sort == 2 ? rules : null;
        if (list == null || list.size() == (sort == 0 ? 4 : 6)) {
            return -1;
        }
        Parser parser = new Parser(tape);
        tape = "";
        try {
            if (sort == 0) {
                woods.add(parser.wood());
            } else if (sort == 1) {
                laws.add(parser.law());
            } else {
                rules.add(parser.rule());
            }
        } catch (Fault fault) {
            return -2 - fault.number;
        }
        return list.size() - 1;
    }

    private static boolean within(int number, int least, int most) {
        return number >= least && number <= most;
    }

    int cell(int wood, int x, int y, int what) {
        if (!within(wood, 0, woods.size() - 1) || !woods.get(wood).has(x, y) || !within(what, 0, 9)) {
            return -2;
        }
        AWood of = woods.get(wood);
        if (what < 5) {
            return of.layers[what][x][y];
        }
        if (what < 9) {
            return what - 5 < of.sources.size() ? of.loud(what - 5, x, y) : -1;
        }
        return of.steps(x, y, of.homeX, of.homeY);
    }

    int wood(int wood, int what) {
        if (!within(wood, 0, woods.size() - 1) || !within(what, 0, 4)) {
            return -1;
        }
        AWood of = woods.get(wood);
        return new int[] {of.columns, of.rows, of.homeX, of.homeY, of.sources.size()}[what];
    }

    boolean walk(int wood, int law, int x, int y, int way) {
        if (!within(wood, 0, woods.size() - 1) || !within(law, 0, laws.size() - 1) || !woods.get(wood).isOpen(x, y)
                || !within(way, 0, 3)) {
            return false;
        }
        now.walker = new Walker(woods.get(wood), laws.get(law), x, y, way);
        now.startX = x;
        now.startY = y;
        now.startWay = way;
        now.acts.clear();
        now.on.clear();
        return true;
    }

    private boolean mayAct() {
        return now.walker != null && now.acts.size() < 200;
    }

    private void note(int kind, int first, int second) {
        now.acts.add(new int[] {kind, first, second});
        now.on.add(now.walker.on() / 1000000);
    }

    int act(int act) {
        if (!mayAct() || !within(act, 0, 4)) {
            return -1;
        }
        now.walker.doAct(act);
        note(act, 0, 0);
        return now.walker.steps;
    }

    private int sign(boolean isOne, int kind, int first, int second) {
        if (!mayAct() || !isOne || !now.walker.sign(kind, first, second)) {
            return -1;
        }
        note(kind, first, second);
        return now.acts.size();
    }

    int felt(int ground) {
        return sign(within(ground, 0, 7), 6, ground, 0);
    }

    int seen(int sky) {
        return sign(within(sky, 0, 9), 7, sky, 0);
    }

    int heard(int source, int loud) {
        boolean isOne = now.walker != null && within(source, 0, now.walker.wood.sources.size() - 1) && within(loud, 0, 40);
        return sign(isOne, 8, source, loud);
    }

    int strike(int ground, boolean path) {
        boolean isOne = now.walker != null && now.walker.matches > 0 && within(ground, 0, 7);
        return sign(isOne, 5, ground, path ? 1 : 0) == -1 ? -1 : now.walker.matches;
    }

    private boolean isCell(int x, int y) {
        return now.walker != null && now.walker.wood.has(x, y);
    }

    int odds(int x, int y, int way) {
        if (!isCell(x, y) || !within(way, -1, 3)) {
            return -1;
        }
        return (int) (way == -1 ? now.walker.odds(x, y) : now.walker.weights[x][y][way]);
    }

    int all(int what) {
        if (now.walker == null || !within(what, 0, 10)) {
            return -1;
        }
        Walker w = now.walker;
        switch (what) {
            case 0:
                return (int) w.on();
            case 1:
                return (int) w.odds(w.wood.homeX, w.wood.homeY);
            case 2:
                return (int) w.sure();
            case 3:
            case 4:
                return w.surest()[what - 3];
            case 5:
                return (int) w.risk();
            case 6:
                return fork(0, 0, 11, 11, -1);
            default:
                return fork(0, 0, 11, 11, what - 7);
        }
    }

    long row(int n, int code, int what) {
        if (now.walker == null || !within(n, 1, 6) || !within(code, 0, (int) Math.pow(4, n) - 1) || !within(what, 0, 1)) {
            return -1;
        }
        return rowOf(n, code)[what];
    }

    private long[] rowOf(int n, int code) {
        Walker w = now.walker.copy();
        long homes = w.takeHome();
        long harms = 0;
        for (int i = 0; i < n; i++) {
            int act = code % 4;
            code /= 4;
            harms += act == 0 ? w.risk() : 0;
            w.doAct(act);
            homes += act == 0 ? w.takeHome() : 0;
        }
        return new long[] {homes, harms};
    }

    int soon(int n) {
        if (now.walker == null || !within(n, 1, 5)) {
            return -1;
        }
        int best = 0;
        long[] most = rowOf(n, 0);
        for (int code = 1; code < Math.pow(4, n); code++) {
            long[] one = rowOf(n, code);
            if (one[0] > most[0] || one[0] == most[0] && one[1] < most[1]) {
                best = code;
                most = one;
            }
        }
        return best;
    }

    int left(int bar) {
        if (now.walker == null || !within(bar, 1, 1000)) {
            return -1;
        }
        for (long on : now.on) {
            if (on < bar) {
                return now.on.indexOf(on);
            }
        }
        return -2;
    }

    int fork(int x, int y, int toX, int toY, int way) {
        if (now.walker == null || !within(x, 0, 11) || !within(y, 0, 11) || !within(toX, x, 11) || !within(toY, y, 11)
                || !within(way, -1, 3)) {
            return -1;
        }
        long sum = 0;
        for (int i = x; i <= toX; i++) {
            for (int j = y; j <= toY; j++) {
                sum += way == -1 ? now.walker.odds(i, j) : now.walker.weights[i][j][way];
            }
        }
        return (int) sum;
    }

    int remember(int x, int y, int bar) {
        if (!isCell(x, y) || !within(bar, 1, 1000)) {
            return -1;
        }
        for (int set : new int[] {0, 1, 2, 4, 8, 3, 5, 6, 9, 10, 12, 7, 11, 13, 14, 15}) {
            Walker w = new Walker(now.walker.wood, now.walker.law, now.startX, now.startY, now.startWay);
            for (int[] act : now.acts) {
                if (act[0] < 5) {
                    w.doAct(act[0]);
                } else if (act[0] == 5) {
                    if ((set & 8) == 0 || !w.sign(5, act[1], act[2])) {
                        w.doAct(4);
                    }
                } else if ((set & 1 << act[0] - 6) != 0) {
                    w.sign(act[0], act[1], act[2]);
                }
            }
            if (w.odds(x, y) / 1000000 >= bar) {
                return set;
            }
        }
        return -2;
    }

    int tells() {
        if (now.walker == null) {
            return -1;
        }
        long[][] most = new long[8][2];
        for (int x = 0; x < 12; x++) {
            for (int y = 0; y < 12; y++) {
                int ground = now.walker.wood.layers[2][x][y];
                int path = now.walker.wood.layers[0][x][y];
                most[ground][path] = Math.max(most[ground][path], now.walker.odds(x, y));
            }
        }
        long sum = 0;
        for (long[] two : most) {
            sum += two[0] + two[1];
        }
        return (int) sum;
    }

    int aim(int what, int line, int bar) {
        if (now.walker == null || !within(what, 0, 1) || !within(line, 0, 11) || !within(bar, 1, 1000)) {
            return -1;
        }
        for (int k = 0; k <= 12; k++) {
            long sum = 0;
            for (int x = 0; x < 12; x++) {
                for (int y = 0; y < 12; y++) {
                    sum += (what == 0 ? x : y) + k > line ? now.walker.odds(x, y) : 0;
                }
            }
            if (sum / 1000000 >= bar) {
                return k;
            }
        }
        return -2;
    }

    int look(int n) {
        if (now.walker == null || !within(n, 0, 6)) {
            return -1;
        }
        return (int) lookFrom(now.walker.wood.homeX, now.walker.wood.homeY, n, new HashSet<>());
    }

    private long lookFrom(int x, int y, int n, Set<Integer> been) {
        Set<Integer> here = new HashSet<>(been);
        long mine = here.add(x * 12 + y) ? now.walker.odds(x, y) : 0;
        long most = 0;
        for (int way = 0; way < 4 && n > 0; way++) {
            if (now.walker.wood.isOpen(x + DX[way], y + DY[way])) {
                most = Math.max(most, lookFrom(x + DX[way], y + DY[way], n - 1, here));
            }
        }
        return mine + most;
    }

    boolean post(int k, int x, int y) {
        if (!within(k, 0, 7) || !within(x, 0, 11) || !within(y, 0, 11)) {
            return false;
        }
        now.posts[k] = new int[] {x, y};
        return true;
    }

    int parish(int wood, int r) {
        if (!within(wood, 0, woods.size() - 1) || !within(r, 0, 40)) {
            return -1;
        }
        AWood of = woods.get(wood);
        List<Integer> needs = new ArrayList<>();
        for (int x = 0; x < of.columns; x++) {
            for (int y = 0; y < of.rows; y++) {
                if (of.layers[0][x][y] == 1 && of.isOpen(x, y)) {
                    int near = 0;
                    for (int k = 0; k < 8; k++) {
                        int steps = now.posts[k] == null ? -1 : of.steps(now.posts[k][0], now.posts[k][1], x, y);
                        near |= steps >= 0 && steps <= r ? 1 << k : 0;
                    }
                    needs.add(near);
                }
            }
        }
        for (int size = 0; size <= 8; size++) {
            for (int set = 0; set < 256; set++) {
                int mine = set;
                if (Integer.bitCount(set) == size && needs.stream().allMatch(near -> (near & mine) != 0)) {
                    return set;
                }
            }
        }
        return -2;
    }

    /** NIGHTS one behind the other; what each ended with, and the last one as it stands. */
    private final class Nights {
        private long seed;
        int homes;
        int falls;
        int all;
        int end;
        int rounds;
        int x;
        int y;
        int way;
        Walker w;

        Nights(int rule, int startX, int startY, int startWay, int seed, int n, int times) {
            this.seed = seed;
            for (int i = 0; i < times; i++) {
                x = startX;
                y = startY;
                way = startWay;
                one(rules.get(rule), n);
                homes += end == 1 ? 1 : 0;
                falls += end == 2 ? 1 : 0;
                all += rounds;
            }
        }

        private int draw(int rest) {
            seed = (seed * 1103515245L + 12345) & 0x7fffffffL;
            return (int) (seed >> 16) % rest;
        }

        private void one(List<Clause> rule, int n) {
            w = new Walker(now.walker.wood, now.walker.law, x, y, way);
            Map<String, Long> words = new HashMap<>();
            for (String word : List.of("ground", "sky", "loud", "path")) {
                words.put(word, 99L);
            }
            end = 0;
            for (rounds = 1; rounds <= n; rounds++) {
                words.put("on", w.on() / 1000000);
                words.put("at", w.odds(w.wood.homeX, w.wood.homeY) / 1000000);
                words.put("sure", w.sure() / 1000000);
                words.put("steps", (long) w.steps);
                words.put("matches", (long) w.matches);
                words.put("eyes", (long) w.eyes);
                int act = 4;
                for (Clause clause : rule) {
                    if (clause.test.of(words)) {
                        act = (int) clause.sum.of(words);
                        break;
                    }
                }
                doAct(act, words);
                if (x == w.wood.homeX && y == w.wood.homeY) {
                    end = 1;
                    return;
                }
                if (act == 0 && draw(1000) < w.wood.layers[4][x][y]) {
                    end = 2;
                    return;
                }
                signs(words);
            }
            rounds = n;
        }

        private void doAct(int act, Map<String, Long> words) {
            if (act == 5) {
                int path = w.wood.layers[0][x][y];
                if (w.matches > 0 && w.sign(5, w.wood.layers[2][x][y], path)) {
                    words.put("path", (long) path);
                } else {
                    w.doAct(4);
                }
                return;
            }
            if (act == 0) {
                int a = w.ahead(x, y);
                int d = w.aside(a);
                int drawn = draw(1000);
                int turn = drawn < a ? 0 : drawn < a + d ? 3 : drawn < a + 2 * d ? 1 : -1;
                int to = (way + turn) % 4;
                if (turn >= 0 && w.wood.isOpen(x + DX[to], y + DY[to])) {
                    x += DX[to];
                    y += DY[to];
                    way = to;
                }
            }
            way = (way + new int[] {0, 3, 1, 2, 0}[act]) % 4;
            w.doAct(act);
        }

        private void signs(Map<String, Long> words) {
            int ground = w.wood.layers[2][x][y];
            if (draw(1000) >= w.law.feel) {
                ground = (ground + 1 + draw(7)) % 8;
            }
            if (w.sign(6, ground, 0)) {
                words.put("ground", (long) ground);
            }
            int sky = w.wood.layers[3][x][y];
            if (draw(1000) >= w.seeing()) {
                sky = (sky + 1 + draw(9)) % 10;
            }
            if (w.sign(7, sky, 0)) {
                words.put("sky", (long) sky);
            }
            if (w.wood.sources.isEmpty()) {
                return;
            }
            int loud = w.wood.loud(0, x, y);
            if (draw(1000) >= w.law.hear) {
                loud = draw(2) == 1 ? Math.min(40, loud + 1) : Math.max(0, loud - 1);
            }
            if (w.sign(8, 0, loud)) {
                words.put("loud", (long) loud);
            }
        }
    }

    private boolean canBeNight(int rule, int x, int y, int way, int seed, int n, int times) {
        return now.walker != null && within(rule, 0, rules.size() - 1) && now.walker.wood.isOpen(x, y) && within(way, 0, 3)
                && seed >= 0 && within(n, 1, 99) && within(times, 1, 9);
    }

    int night(int rule, int x, int y, int way, int seed, int n, int what) {
        if (!canBeNight(rule, x, y, way, seed, n, 1) || !within(what, 0, 6)) {
            return -1;
        }
        Nights one = new Nights(rule, x, y, way, seed, n, 1);
        return new int[] {one.end, one.rounds, one.x, one.y, one.way, one.w.matches, (int) (one.w.sure() / 1000000)}[what];
    }

    int nights(int rule, int x, int y, int way, int seed, int n, int times, int what) {
        if (!canBeNight(rule, x, y, way, seed, n, times) || !within(what, 0, 2)) {
            return -1;
        }
        Nights some = new Nights(rule, x, y, way, seed, n, times);
        return new int[] {some.homes, some.falls, some.all}[what];
    }

    int finest(int x, int y, int way, int seed, int n, int times) {
        if (rules.isEmpty()) {
            rules.add(new ArrayList<>());
            boolean can = canBeNight(0, x, y, way, seed, n, times);
            rules.clear();
            return can ? -2 : -1;
        }
        if (!canBeNight(0, x, y, way, seed, n, times)) {
            return -1;
        }
        int best = 0;
        Nights most = new Nights(0, x, y, way, seed, n, times);
        for (int rule = 1; rule < rules.size(); rule++) {
            Nights one = new Nights(rule, x, y, way, seed, n, times);
            if (one.homes > most.homes || one.homes == most.homes && one.falls < most.falls) {
                best = rule;
                most = one;
            }
        }
        return best;
    }

    int count(int what) {
        if (!within(what, 0, 7) || now.walker == null && within(what, 3, 6)) {
            return -1;
        }
        if (now.walker != null && within(what, 3, 6)) {
            return new int[] {now.acts.size(), now.walker.steps, now.walker.matches, now.walker.eyes}[what - 3];
        }
        return what == 7 ? tape.length() : what == 0 ? woods.size() : what == 1 ? laws.size() : rules.size();
    }

    int image(int k) {
        if (!within(k, 0, 3)) {
            return -1;
        }
        images[k] = now.copy();
        return now.acts.size();
    }

    int back(int k) {
        if (!within(k, 0, 3) || images[k] == null) {
            return -1;
        }
        now = images[k].copy();
        return now.acts.size();
    }
}
