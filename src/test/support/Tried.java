/**
 * An object under test, with its calls counted: what it answers behind the 512th is free, so no test
 * may look at it.
 */
final class Tried {
    static final int MOST_CALLS = 512;
    private final HeadsMeet real = new HeadsMeet();
    private int calls;

    /** A new object, with THE PAGE typed. */
    static Tried typed(String text) {
        return new Tried().type(text);
    }

    /** A new object, with THE NET read. */
    static Tried of(String text) {
        Tried x = typed(text);
        int nodes = x.net();
        if (nodes < 0) {
            throw new IllegalStateException("net() of " + text + " answered " + nodes);
        }
        return x;
    }

    Tried type(String text) {
        for (char c : text.toCharArray()) {
            int many = letter(c);
            if (many < 0) {
                throw new IllegalStateException("letter(" + (int) c + ") of " + text + " answered " + many);
            }
        }
        return this;
    }

    int calls() {
        return calls;
    }

    private HeadsMeet next() {
        calls++;
        if (calls > MOST_CALLS) {
            throw new IllegalStateException("the test makes more than " + MOST_CALLS + " calls of one object");
        }
        return real;
    }

    int letter(int code) {
        return next().letter(code);
    }

    int blank() {
        return next().blank();
    }

    int fault() {
        return next().fault();
    }

    int net() {
        return next().net();
    }

    int node(int node, int what) {
        return next().node(node, what);
    }

    int as(int node, int what) {
        return next().as(node, what);
    }

    int open(int wire) {
        return next().open(wire);
    }

    int meetings(int what) {
        return next().meetings(what);
    }

    int meet(int meeting) {
        return next().meet(meeting);
    }

    int run(int many) {
        return next().run(many);
    }

    int join(int a, int b) {
        return next().join(a, b);
    }

    int stop(int wire) {
        return next().stop(wire);
    }

    int change(int node, int kind) {
        return next().change(node, kind);
    }

    int flip(int node) {
        return next().flip(node);
    }

    int ending(int what) {
        return next().ending(what);
    }

    int reading(int sign) {
        return next().reading(sign);
    }

    int endReading(int sign) {
        return next().endReading(sign);
    }

    int same() {
        return next().same();
    }

    int see(int node, int what, int much) {
        return next().see(node, what, much);
    }

    int forget() {
        return next().forget();
    }

    int runs(int many, int seed, int what) {
        return next().runs(many, seed, what);
    }

    int image() {
        return next().image();
    }

    int restore() {
        return next().restore();
    }

    int count(int what) {
        return next().count(what);
    }

    long digest() {
        return next().digest();
    }
}
