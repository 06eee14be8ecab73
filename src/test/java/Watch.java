/** A GossipWatch whose calls are counted: what it answers after its 512th is free, so no test may ask for it. */
final class Watch {
    static final int MOST_CALLS = 512;

    private final GossipWatch real;
    private int calls = 0;

    Watch(long seed) {
        real = new GossipWatch(seed);
    }

    int callsLeft() {
        return MOST_CALLS - calls;
    }

    private GossipWatch next() {
        calls++;
        if (calls > MOST_CALLS) throw new IllegalStateException("a test asks for a 513th call");
        return real;
    }

    int append(int log, int view, int leaf) {
        return next().append(log, view, leaf);
    }

    int leaves(int log, int view) {
        return next().leaves(log, view);
    }

    int head(int log, int view, int n) {
        return next().head(log, view, n);
    }

    int proof(int log, int view, int m, int n) {
        return next().proof(log, view, m, n);
    }

    int path(int log, int view, int n, int i) {
        return next().path(log, view, n, i);
    }

    int alter(int letter, int k, int mask) {
        return next().alter(letter, k, mask);
    }

    int cut(int letter, int n) {
        return next().cut(letter, n);
    }

    boolean sign(int letter) {
        return next().sign(letter);
    }

    int clear() {
        return next().clear();
    }

    int letters() {
        return next().letters();
    }

    int letter(int letter, int k) {
        return next().letter(letter, k);
    }

    int take(int monitor, int letter) {
        return next().take(monitor, letter);
    }

    int gossip(int a, int b) {
        return next().gossip(a, b);
    }

    int holds(int monitor, int what) {
        return next().holds(monitor, what);
    }

    int held(int monitor, int i, int k) {
        return next().held(monitor, i, k);
    }

    int fact(int monitor, int i, int what) {
        return next().fact(monitor, i, what);
    }

    int record(int monitor, int i, int what) {
        return next().record(monitor, i, what);
    }

    int lay(int monitor, int i) {
        return next().lay(monitor, i);
    }

    int desk(int k) {
        return next().desk(k);
    }

    boolean patch(int k, int v) {
        return next().patch(k, v);
    }

    boolean trim(int n) {
        return next().trim(n);
    }

    boolean audit() {
        return next().audit();
    }

    int hash(int k) {
        return next().hash(k);
    }
}
