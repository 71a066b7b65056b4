/** An object of ThrowRules that counts its calls: what comes behind the 512th is free, so no test may go there. */
final class Counted {
    static final int LIMIT = 512;

    private final ThrowRules rules = new ThrowRules();
    private int calls;

    int left() {
        return LIMIT - calls;
    }

    private ThrowRules next() {
        calls++;
        if (calls > LIMIT) {
            throw new IllegalStateException("a test made more than 512 calls of one object");
        }
        return rules;
    }

    int feed(int a, int b, int c, int d, int e) {
        return next().feed(a, b, c, d, e);
    }

    int cut(int n) {
        return next().cut(n);
    }

    int read() {
        return next().read();
    }

    int told(int what) {
        return next().told(what);
    }

    int mistake(int k, int what) {
        return next().mistake(k, what);
    }

    int kind(int k, int what) {
        return next().kind(k, what);
    }

    boolean below(int a, int b) {
        return next().below(a, b);
    }

    int method(int m, int what) {
        return next().method(m, what);
    }

    int statement(int i, int what) {
        return next().statement(i, what);
    }

    int find() {
        return next().find();
    }

    int walk(int m, long seed) {
        return next().walk(m, seed);
    }

    int steps() {
        return next().steps();
    }
}
