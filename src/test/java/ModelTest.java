import java.util.Random;

/** Random runs, always the same ones, on the class and on the Model: each answer must be the same. */
public final class ModelTest {
    private final Random random;
    private final Dark class1 = new Dark();
    private final Model model = new Model();
    private final String name;
    // Sizes of what stands, for arguments that mostly fit.
    private int columns = 12;
    private int rows = 12;

    private ModelTest(long seed) {
        random = new Random(seed);
        name = "run " + seed + ": ";
    }

    public static void main(String[] args) {
        for (int seed = 0; seed < 500; seed++) {
            new ModelTest(seed).run();
        }
        for (int seed = 10000; seed < 12000; seed++) {
            new ModelTest(seed).texts();
        }
        Check.finish();
    }

    private int below(int n) {
        return random.nextInt(n);
    }

    private int from(int least, int most) {
        return least + below(most - least + 1);
    }

    /** Mostly a number from least to most, at times one beside it or anywhere. */
    private int about(int least, int most) {
        int which = below(60);
        if (which == 0) {
            return least - 1;
        }
        if (which == 1) {
            return most + 1;
        }
        if (which == 2) {
            return random.nextInt();
        }
        return from(least, most);
    }

    private String area() {
        int x = below(columns);
        int y = below(rows);
        boolean line = below(3) > 0;
        int toX = from(x, Math.min(11, x + (line ? 5 : 3)));
        int toY = line ? y : from(y, Math.min(11, y + 3));
        return x + " " + y + " " + toX + " " + toY;
    }

    private String wood() {
        StringBuilder text = new StringBuilder();
        columns = from(2, below(2) == 0 ? 5 : 12);
        rows = from(2, below(2) == 0 ? 5 : 12);
        text.append("wide ").append(columns).append(' ').append(rows);
        text.append(";home ").append(below(columns)).append(' ').append(below(rows + 1));
        for (int i = below(14); i > 0 && text.length() < 350; i--) {
            text.append(';');
            switch (below(7)) {
                case 0 -> text.append("wall ").append(area());
                case 1, 2 -> text.append("path ").append(area());
                case 3 -> text.append("ground ").append(below(8)).append(' ').append(area());
                case 4 -> text.append("sky ").append(below(10)).append(' ').append(area());
                case 5 -> text.append("harm ").append(below(3) == 0 ? below(1001) : below(100)).append(' ').append(area());
                default -> text.append("source ").append(from(1, 40)).append(' ').append(below(12)).append(' ').append(below(12));
            }
        }
        return text.toString();
    }

    private String value(boolean law) {
        String[] ofLaw = {"path", "ground", "sky", "harm", "eyes"};
        String[] ofRule = {"on", "at", "sure", "ground", "sky", "loud", "steps", "matches", "eyes", "path"};
        if (below(2) == 0) {
            int[] numbers = {0, 1, 2, 3, 5, 9, 30, 99, 100, 300, 500, 800, 950, 1000, 99999};
            return "" + numbers[below(numbers.length)];
        }
        return law ? ofLaw[below(5)] : ofRule[below(10)];
    }

    private String sum(boolean law) {
        StringBuilder text = new StringBuilder(value(law));
        for (int i = below(4) * below(2); i > 0; i--) {
            text.append("+-*/".charAt(below(4))).append(value(law));
        }
        return text.toString();
    }

    private String test(boolean law, int depth) {
        StringBuilder text = new StringBuilder(fact(law, depth));
        for (int i = below(3) * below(2); i > 0; i--) {
            text.append(below(2) == 0 ? " and " : " or ").append(fact(law, depth));
        }
        return text.toString();
    }

    private String fact(boolean law, int depth) {
        if (depth < 3 && below(5) == 0) {
            return "not " + fact(law, depth + 1);
        }
        if (depth < 3 && below(5) == 0) {
            return "[" + test(law, depth + 1) + "]";
        }
        String[] signs = {"<", "<=", "=", ">=", ">"};
        return sum(law) + signs[below(5)] + sum(law);
    }

    private String law() {
        StringBuilder text = new StringBuilder("step ").append(below(2) == 0 ? from(600, 1000) + "" : sum(true));
        if (below(2) == 0) {
            text.append(" if ").append(test(true, 0));
        }
        if (below(2) == 0) {
            text.append(";step ").append(from(0, 1000)).append("-eyes*").append(below(40));
        }
        String[] words = {"drift", "feel", "see", "hear"};
        for (String word : words) {
            if (below(2) == 0) {
                text.append(';').append(word).append(' ').append(below(4) == 0 ? below(2) * 500 : from(100, 500));
            }
        }
        return text.toString();
    }

    private String rule() {
        String[] acts = {"go", "go", "go", "left", "right", "back", "sit", "strike"};
        StringBuilder text = new StringBuilder();
        for (int i = below(5); i >= 0; i--) {
            text.append(acts[below(8)]);
            if (below(5) > 0) {
                text.append(" if ").append(test(false, 0));
            }
            text.append(i == 0 ? "" : ";");
        }
        return text.toString();
    }

    private String spoiled(String text) {
        if (text.isEmpty()) {
            return text;
        }
        String signs = " ;[]<>=+-*/0159azno\u0000\u00ff";
        String[] words = {"if", "not", "and", "or", "go", "path", "123456", "[[[", "]]", "<=", "step", "wide 3 3", "home 1 1", ";"};
        int at = below(text.length());
        int to = Math.min(text.length(), at + below(3));
        String put = below(3) == 0 ? " " + words[below(words.length)] + " " : "" + signs.charAt(below(signs.length()));
        return below(5) == 0 ? text.substring(0, at) : text.substring(0, at) + put + text.substring(to);
    }

    private void text(int sort) {
        String text = sort == 0 ? wood() : sort == 1 ? law() : rule();
        for (int i = below(4) == 0 ? from(1, 3) : 0; i > 0; i--) {
            text = spoiled(text);
        }
        tell(sort, text);
    }

    private void tell(int sort, String told) {
        String text = told.length() > 400 ? told.substring(0, 400) : told;
        Scene.feed(class1, text);
        for (int at = 0; at < text.length(); at += 20) {
            int[] five = new int[5];
            for (int i = 0; i < 20 && at + i < text.length(); i++) {
                five[i / 4] |= text.charAt(at + i) << 24 - 8 * (i % 4);
            }
            model.feed(five[0], five[1], five[2], five[3], five[4]);
        }
        model.end(text.length());
        due("text(" + sort + ") \"" + text + "\"", class1.text(sort), model.text(sort));
        if (class1.count(7) > 0) {
            class1.end(0);
            model.end(0);
        }
    }

    private void due(String call, long got, long want) {
        Check.due(name + call, got, want);
    }

    private void texts() {
        for (int i = 0; i < 12; i++) {
            int sort = below(3);
            String text = sort == 0 ? wood() : sort == 1 ? law() : rule();
            if (below(6) == 0) {
                text = (text + ";").repeat(6);
            }
            for (int k = below(5); k > 0; k--) {
                text = spoiled(text);
            }
            tell(sort, text);
        }
    }

    private void run() {
        for (int i = 0; i < 2; i++) {
            tell(0, wood());
            tell(1, law());
            tell(2, rule());
        }
        tell(2, rule());
        for (int i = 0; i < 40 && model.count(3) < 0; i++) {
            walk();
        }
        while (class1.rest() > 45) {
            if (below(60) == 0) {
                text(below(3));
            } else if (below(60) == 0) {
                walk();
            } else if (below(2) == 0) {
                act();
            } else {
                ask();
            }
        }
    }

    private void walk() {
        int wood = about(0, model.count(0) - 1);
        int law = about(0, model.count(1) - 1);
        if (wood >= 0 && wood < model.count(0)) {
            columns = model.wood(wood, 0);
            rows = model.wood(wood, 1);
        }
        int x = about(0, columns - 1);
        int y = about(0, rows - 1);
        int way = about(0, 3);
        String call = "walk(" + wood + ", " + law + ", " + x + ", " + y + ", " + way + ")";
        Check.due(name + call, class1.walk(wood, law, x, y, way), model.walk(wood, law, x, y, way));
    }

    private void act() {
        int which = below(10);
        if (which < 6) {
            int act = about(0, which < 4 ? 1 : 4);
            due("act(" + act + ")", class1.act(act), model.act(act));
        } else if (which == 6) {
            int ground = about(0, below(2) == 0 ? 1 : 7);
            due("felt(" + ground + ")", class1.felt(ground), model.felt(ground));
        } else if (which == 7) {
            int sky = about(0, below(2) == 0 ? 1 : 9);
            due("seen(" + sky + ")", class1.seen(sky), model.seen(sky));
        } else if (which == 8) {
            int source = about(0, 1);
            int loud = about(0, below(2) == 0 ? 12 : 40);
            due("heard(" + source + ", " + loud + ")", class1.heard(source, loud), model.heard(source, loud));
        } else if (below(3) == 0) {
            int ground = about(0, below(2) == 0 ? 1 : 7);
            boolean path = random.nextBoolean();
            due("strike(" + ground + ", " + path + ")", class1.strike(ground, path), model.strike(ground, path));
        } else {
            int k = about(0, 3);
            if (below(2) == 0) {
                due("image(" + k + ")", class1.image(k), model.image(k));
            } else {
                due("back(" + k + ")", class1.back(k), model.back(k));
            }
        }
        if (below(3) == 0) {
            lookAround();
        }
    }

    /** Some of what can be asked at once; the next ACTS show the rest. */
    private void lookAround() {
        for (int i = 0; i < 3; i++) {
            int what = about(0, 10);
            due("all(" + what + ")", class1.all(what), model.all(what));
        }
        int number = about(3, 6);
        due("count(" + number + ")", class1.count(number), model.count(number));
        for (int i = 0; i < 3; i++) {
            int x = about(0, columns - 1);
            int y = about(0, rows - 1);
            int way = about(-1, 3);
            due("odds(" + x + ", " + y + ", " + way + ")", class1.odds(x, y, way), model.odds(x, y, way));
        }
    }

    private void ask() {
        int x = about(0, columns - 1);
        int y = about(0, rows - 1);
        int bar = below(2) == 0 ? about(1, 1000) : about(1, 200);
        int n = about(1, below(20) == 0 ? 5 : 3);
        switch (below(15)) {
            case 0 -> {
                int code = about(0, (1 << 2 * Math.max(0, Math.min(n, 6))) - 1);
                int what = about(0, 1);
                due("row(" + n + ", " + code + ", " + what + ")", class1.row(n, code, what), model.row(n, code, what));
            }
            case 1 -> due("soon(" + n + ")", class1.soon(n), model.soon(n));
            case 2 -> due("left(" + bar + ")", class1.left(bar), model.left(bar));
            case 3 -> {
                int toX = about(Math.max(0, Math.min(x, 11)), 11);
                int toY = about(Math.max(0, Math.min(y, 11)), 11);
                int way = about(-1, 3);
                due("fork(" + x + ", " + y + ", " + toX + ", " + toY + ", " + way + ")",
                        class1.fork(x, y, toX, toY, way), model.fork(x, y, toX, toY, way));
            }
            case 4, 5 -> due("remember(" + x + ", " + y + ", " + bar + ")", class1.remember(x, y, bar), model.remember(x, y, bar));
            case 6 -> due("tells()", class1.tells(), model.tells());
            case 7 -> {
                int what = about(0, 1);
                int line = about(0, 11);
                due("aim(" + what + ", " + line + ", " + bar + ")", class1.aim(what, line, bar), model.aim(what, line, bar));
            }
            case 8 -> {
                int steps = about(0, 6);
                due("look(" + steps + ")", class1.look(steps), model.look(steps));
            }
            case 9 -> {
                int k = about(0, 7);
                Check.due(name + "post(" + k + ", " + x + ", " + y + ")", class1.post(k, x, y), model.post(k, x, y));
            }
            case 10 -> {
                int wood = about(0, model.count(0) - 1);
                int r = about(0, below(2) == 0 ? 40 : 6);
                due("parish(" + wood + ", " + r + ")", class1.parish(wood, r), model.parish(wood, r));
            }
            case 11 -> cells();
            default -> nights(x, y);
        }
    }

    private void cells() {
        int wood = about(0, model.count(0) - 1);
        for (int what = -1; what <= 5; what++) {
            due("wood(" + wood + ", " + what + ")", class1.wood(wood, what), model.wood(wood, what));
        }
        for (int i = 0; i < 20; i++) {
            int x = about(0, 11);
            int y = about(0, 11);
            int what = about(0, 9);
            due("cell(" + wood + ", " + x + ", " + y + ", " + what + ")", class1.cell(wood, x, y, what), model.cell(wood, x, y, what));
        }
    }

    private void nights(int x, int y) {
        int rule = about(0, model.count(2) - 1);
        int way = about(0, 3);
        int seed = below(20) == 0 ? -from(0, 1) : random.nextInt() & Integer.MAX_VALUE;
        int n = about(1, below(3) == 0 ? 99 : 20);
        int times = about(1, below(8) == 0 ? 9 : 3);
        String start = x + ", " + y + ", " + way + ", " + seed + ", " + n;
        switch (below(4)) {
            case 0, 1 -> {
                for (int what = 0; what <= 6; what++) {
                    due("night(" + rule + ", " + start + ", " + what + ")",
                            class1.night(rule, x, y, way, seed, n, what), model.night(rule, x, y, way, seed, n, what));
                }
                int what = about(0, 6);
                due("night(" + rule + ", " + start + ", " + what + ")",
                        class1.night(rule, x, y, way, seed, n, what), model.night(rule, x, y, way, seed, n, what));
            }
            case 2 -> {
                int what = about(0, 2);
                due("nights(" + rule + ", " + start + ", " + times + ", " + what + ")",
                        class1.nights(rule, x, y, way, seed, n, times, what), model.nights(rule, x, y, way, seed, n, times, what));
            }
            default -> due("finest(" + start + ", " + times + ")",
                    class1.finest(x, y, way, seed, n, times), model.finest(x, y, way, seed, n, times));
        }
    }
}
