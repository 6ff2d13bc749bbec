/** A TunnelNetwork that says when a test uses it for more calls than the document allows. */
final class Program extends Network {
    static final int MOST_CALLS = 512;
    private final TunnelNetwork x = new TunnelNetwork();
    private final int mostCalls;
    private int calls = 0;

    Program() {
        this(MOST_CALLS);
    }

    Program(int mostCalls) {
        this.mostCalls = mostCalls;
    }

    private TunnelNetwork counted() {
        calls++;
        if (calls > mostCalls) {
            throw new IllegalStateException("a test makes more than " + mostCalls + " calls on one object");
        }
        return x;
    }

    int calls() {
        return calls;
    }

    @Override
    int link(int code, int cost, int capacity) {
        return counted().link(code, cost, capacity);
    }

    @Override
    int unlink(int code) {
        return counted().unlink(code);
    }

    @Override
    int change(int code, int what, int value) {
        return counted().change(code, what, value);
    }

    @Override
    int look(int code, int what) {
        return counted().look(code, what);
    }

    @Override
    int room(int code, int priority) {
        return counted().room(code, priority);
    }

    @Override
    int want(int t, int ends, int bandwidth, int terms) {
        return counted().want(t, ends, bandwidth, terms);
    }

    @Override
    int release(int t) {
        return counted().release(t);
    }

    @Override
    int improve(int t) {
        return counted().improve(t);
    }

    @Override
    int state(int t) {
        return counted().state(t);
    }

    @Override
    int node(int t, int i) {
        return counted().node(t, i);
    }

    @Override
    int cost(int t) {
        return counted().cost(t);
    }

    @Override
    int over(int code) {
        return counted().over(code);
    }

    @Override
    int quote(int ends, int bandwidth, int terms) {
        return counted().quote(ends, bandwidth, terms);
    }

    @Override
    int widest(int ends, int terms) {
        return counted().widest(ends, terms);
    }

    @Override
    int flow(int ends, int terms) {
        return counted().flow(ends, terms);
    }

    @Override
    int bridge(int code) {
        return counted().bridge(code);
    }

    @Override
    int groups() {
        return counted().groups();
    }
}
