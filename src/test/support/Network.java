/** The document's methods, so that a test can make the same call on the program and on the model. */
abstract class Network {
    static final String[] CHANGERS = {"link", "unlink", "change", "want", "release", "improve"};
    static final String[] QUESTIONS = {
        "look", "room", "state", "node", "cost", "over", "quote", "widest", "flow", "bridge", "groups"};

    abstract int link(int code, int cost, int capacity);

    abstract int unlink(int code);

    abstract int change(int code, int what, int value);

    abstract int look(int code, int what);

    abstract int room(int code, int priority);

    abstract int want(int t, int ends, int bandwidth, int terms);

    abstract int release(int t);

    abstract int improve(int t);

    abstract int state(int t);

    abstract int node(int t, int i);

    abstract int cost(int t);

    abstract int over(int code);

    abstract int quote(int ends, int bandwidth, int terms);

    abstract int widest(int ends, int terms);

    abstract int flow(int ends, int terms);

    abstract int bridge(int code);

    abstract int groups();

    final int call(String method, int... a) {
        return switch (method) {
            case "link" -> link(a[0], a[1], a[2]);
            case "unlink" -> unlink(a[0]);
            case "change" -> change(a[0], a[1], a[2]);
            case "look" -> look(a[0], a[1]);
            case "room" -> room(a[0], a[1]);
            case "want" -> want(a[0], a[1], a[2], a[3]);
            case "release" -> release(a[0]);
            case "improve" -> improve(a[0]);
            case "state" -> state(a[0]);
            case "node" -> node(a[0], a[1]);
            case "cost" -> cost(a[0]);
            case "over" -> over(a[0]);
            case "quote" -> quote(a[0], a[1], a[2]);
            case "widest" -> widest(a[0], a[1]);
            case "flow" -> flow(a[0], a[1]);
            case "bridge" -> bridge(a[0]);
            case "groups" -> groups();
            default -> throw new IllegalArgumentException(method);
        };
    }
}
