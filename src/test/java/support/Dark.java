/** A DarkWood whose calls are counted: what more than 512 of them answer is free, so no test may ask for it. */
final class Dark {
    static final int MOST = 512;

    private final DarkWood wood = new DarkWood();
    private int calls;

    private DarkWood called() {
        calls++;
        if (calls == MOST + 1) {
            Check.due("calls of one object", calls, MOST);
        }
        return wood;
    }

    /** How many calls are left that the document speaks of. */
    int rest() {
        return MOST - calls;
    }

    int feed(int a, int b, int c, int d, int e) {
        return called().feed(a, b, c, d, e);
    }

    int end(int n) {
        return called().end(n);
    }

    int text(int sort) {
        return called().text(sort);
    }

    int cell(int wood, int x, int y, int what) {
        return called().cell(wood, x, y, what);
    }

    int wood(int wood, int what) {
        return called().wood(wood, what);
    }

    boolean walk(int wood, int law, int x, int y, int way) {
        return called().walk(wood, law, x, y, way);
    }

    int act(int act) {
        return called().act(act);
    }

    int felt(int ground) {
        return called().felt(ground);
    }

    int seen(int sky) {
        return called().seen(sky);
    }

    int heard(int source, int loud) {
        return called().heard(source, loud);
    }

    int strike(int ground, boolean path) {
        return called().strike(ground, path);
    }

    int odds(int x, int y, int way) {
        return called().odds(x, y, way);
    }

    int all(int what) {
        return called().all(what);
    }

    long row(int n, int code, int what) {
        return called().row(n, code, what);
    }

    int soon(int n) {
        return called().soon(n);
    }

    int left(int bar) {
        return called().left(bar);
    }

    int fork(int x, int y, int toX, int toY, int way) {
        return called().fork(x, y, toX, toY, way);
    }

    int remember(int x, int y, int bar) {
        return called().remember(x, y, bar);
    }

    int tells() {
        return called().tells();
    }

    int aim(int what, int line, int bar) {
        return called().aim(what, line, bar);
    }

    int look(int n) {
        return called().look(n);
    }

    boolean post(int k, int x, int y) {
        return called().post(k, x, y);
    }

    int parish(int wood, int r) {
        return called().parish(wood, r);
    }

    int night(int rule, int x, int y, int way, int seed, int n, int what) {
        return called().night(rule, x, y, way, seed, n, what);
    }

    int nights(int rule, int x, int y, int way, int seed, int n, int times, int what) {
        return called().nights(rule, x, y, way, seed, n, times, what);
    }

    int finest(int x, int y, int way, int seed, int n, int times) {
        return called().finest(x, y, way, seed, n, times);
    }

    int count(int what) {
        return called().count(what);
    }

    int image(int k) {
        return called().image(k);
    }

    int back(int k) {
        return called().back(k);
    }
}
