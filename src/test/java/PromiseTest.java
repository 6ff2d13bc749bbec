/** For each promise of the document: ordinary inputs, the edges that it names, and wrong inputs. */
public final class PromiseTest {
    private static final int BAD = -1;
    private static final int NONE = -2;
    private static final int EXISTS = -3;
    private static final int[] BAD_CODES = {
        Integer.MIN_VALUE, -37, -36, -6, -5, -1, 0, 6, 7, 12, 13, 14, 18, 19, 20, 21,
        24, 25, 26, 27, 28, 30, 31, 32, 33, 34, 35, 36, 37, 38, 41, 65, Integer.MAX_VALUE};
    private static final int[] GOOD_CODES = {1, 2, 3, 4, 5, 8, 9, 10, 11, 15, 16, 17, 22, 23, 29};
    private static final int[] BAD_ENDS = {
        Integer.MIN_VALUE, -36, -7, -1, 0, 7, 14, 21, 28, 35, 36, 37, 42, Integer.MAX_VALUE};
    private static final int[] BAD_TUNNELS = {Integer.MIN_VALUE, -1, 8, 9, Integer.MAX_VALUE};
    private static final int[] BAD_BANDWIDTHS = {Integer.MIN_VALUE, -1, 0, 101, Integer.MAX_VALUE};
    private static final int[] BAD_TERMS = {Integer.MIN_VALUE, -1, 32, 33, Integer.MAX_VALUE};
    private static int wrong = 0;

    private static void due(String what, int got, int want) {
        if (got != want) {
            wrong++;
            System.out.println(what + ": answered " + got + ", due is " + want);
        }
    }

    /** The path as the digits of its nodes, or "" if the tunnel is not placed. */
    private static void duePath(String what, TunnelNetwork x, int t, String nodes) {
        StringBuilder got = new StringBuilder();
        for (int i = 0; i < 7; i++) {
            int node = x.node(t, i);
            if (node >= 0) {
                got.append(node);
            }
        }
        if (!got.toString().equals(nodes)) {
            wrong++;
            System.out.println(what + ": tunnel " + t + " is on '" + got + "', due is '" + nodes + "'");
        }
    }

    private static int code(int a, int b) {
        return 6 * a + b;
    }

    private static int terms(int priority, int avoided) {
        return 8 * priority + avoided;
    }

    public static void main(String[] args) {
        newObject();
        link();
        linkSettles();
        unlink();
        change();
        changeRefused();
        look();
        room();
        want();
        wantRefused();
        release();
        improve();
        improveSettles();
        state();
        node();
        cost();
        over();
        quote();
        widest();
        flow();
        bridge();
        groups();
        betterPaths();
        longestPathAgainstOneLink();
        settlingDropsBroken();
        settlingRelievesLeastCodeFirst();
        settlingRelievesLeastUrgentFirst();
        settlingPlacesInOrder();
        settlingPlacesUrgentOnesBeforeLesserNumbers();
        settlingGoesOnAfterPlacing();
        refusedCallsChangeNothing();
        System.out.println(wrong == 0 ? "all answers are as due" : wrong + " answers are not as due");
        if (wrong != 0) {
            System.exit(1);
        }
    }

    private static void newObject() {
        due("BAD", TunnelNetwork.BAD, BAD);
        due("NONE", TunnelNetwork.NONE, NONE);
        due("EXISTS", TunnelNetwork.EXISTS, EXISTS);
        TunnelNetwork x = new TunnelNetwork();
        for (int code : GOOD_CODES) {
            due("new look " + code, x.look(code, 0), NONE);
            due("new room " + code, x.room(code, 0), NONE);
            due("new over " + code, x.over(code), NONE);
            due("new bridge " + code, x.bridge(code), NONE);
            due("new quote " + code, x.quote(code, 1, 0), NONE);
            due("new widest " + code, x.widest(code, 0), 0);
            due("new flow " + code, x.flow(code, 0), 0);
        }
        for (int t = 0; t < 8; t++) {
            due("new state " + t, x.state(t), 0);
            due("new node " + t, x.node(t, 0), NONE);
            due("new cost " + t, x.cost(t), NONE);
        }
        due("new groups", x.groups(), 6);
        TunnelNetwork other = new TunnelNetwork();
        other.link(1, 1, 1);
        due("objects are apart", x.look(1, 0), NONE);
    }

    private static void link() {
        TunnelNetwork x = new TunnelNetwork();
        for (int code : BAD_CODES) {
            due("link bad code " + code, x.link(code, 1, 1), BAD);
        }
        for (int cost : new int[] {Integer.MIN_VALUE, -1, 0, 21, Integer.MAX_VALUE}) {
            due("link bad cost " + cost, x.link(1, cost, 1), BAD);
        }
        for (int capacity : new int[] {Integer.MIN_VALUE, -1, 101, Integer.MAX_VALUE}) {
            due("link bad capacity " + capacity, x.link(1, 1, capacity), BAD);
        }
        due("nothing was linked", x.groups(), 6);
        due("link least", x.link(1, 1, 0), 0);
        due("link most", x.link(29, 20, 100), 0);
        due("link again", x.link(1, 2, 2), EXISTS);
        due("link again badly: BAD comes first", x.link(1, 0, 2), BAD);
        due("least cost", x.look(1, 0), 1);
        due("least capacity", x.look(1, 1), 0);
        due("most cost", x.look(29, 0), 20);
        due("most capacity", x.look(29, 1), 100);
        due("no colours", x.look(29, 2), 0);
        due("up", x.look(29, 3), 1);
        x.change(29, 2, 7);
        x.change(29, 3, 0);
        x.unlink(29);
        due("link anew", x.link(29, 3, 4), 0);
        due("anew no colours", x.look(29, 2), 0);
        due("anew up", x.look(29, 3), 1);
        due("anew cost", x.look(29, 0), 3);
        due("anew capacity", x.look(29, 1), 4);
        for (int code : GOOD_CODES) {
            due("link good code " + code, x.link(code, 1, 1), code == 1 || code == 29 ? EXISTS : 0);
        }
    }

    private static void linkSettles() {
        TunnelNetwork x = new TunnelNetwork();
        due("want without links", x.want(0, code(0, 2), 5, 0), 0);
        due("want reversed", x.want(1, code(2, 0), 5, 0), 0);
        due("half a way", x.link(code(0, 1), 1, 9), 0);
        due("whole way, room for one", x.link(code(1, 2), 1, 9), 1);
        due("a second way", x.link(code(0, 2), 20, 5), 2);
        duePath("stays where it is", x, 0, "012");
        duePath("takes the new way", x, 1, "20");
    }

    private static void unlink() {
        TunnelNetwork x = new TunnelNetwork();
        for (int code : BAD_CODES) {
            due("unlink bad code " + code, x.unlink(code), BAD);
        }
        due("unlink none", x.unlink(1), NONE);
        x.link(code(0, 1), 1, 10);
        x.link(code(1, 2), 1, 10);
        x.link(code(0, 2), 5, 4);
        x.want(0, code(0, 2), 6, 0);
        x.want(1, code(0, 2), 4, 0);
        x.want(2, code(3, 4), 4, 0);
        duePath("before unlink", x, 1, "012");
        due("unlink", x.unlink(code(1, 2)), 1);
        due("unlinked", x.look(code(1, 2), 0), NONE);
        due("too wide for the rest", x.state(0), 1);
        duePath("moved by unlink", x, 1, "02");
        due("load left on the way", x.look(code(0, 1), 4), 0);
        due("unlink again", x.unlink(code(1, 2)), NONE);
    }

    private static void change() {
        TunnelNetwork x = new TunnelNetwork();
        x.link(1, 5, 50);
        x.want(3, code(1, 0), 20, terms(2, 2));
        for (int value : new int[] {1, 20}) {
            due("change cost", x.change(1, 0, value), 1);
            due("cost is", x.look(1, 0), value);
        }
        due("change capacity to the load", x.change(1, 1, 20), 1);
        due("change capacity below the load", x.change(1, 1, 19), 0);
        due("idle", x.state(3), 1);
        due("capacity 0", x.change(1, 1, 0), 0);
        due("capacity 100", x.change(1, 1, 100), 1);
        due("capacity is", x.look(1, 1), 100);
        due("colours not avoided", x.change(1, 2, 5), 1);
        due("colours is", x.look(1, 2), 5);
        due("colours avoided", x.change(1, 2, 7), 0);
        due("colours gone", x.change(1, 2, 0), 1);
        due("down", x.change(1, 3, 0), 0);
        due("is down", x.look(1, 3), 0);
        due("up", x.change(1, 3, 1), 1);
        due("is up", x.look(1, 3), 1);
    }

    private static void changeRefused() {
        TunnelNetwork x = new TunnelNetwork();
        int[][] bad = {
            {-1, 1}, {4, 1}, {5, 1}, {Integer.MIN_VALUE, 1}, {Integer.MAX_VALUE, 1},
            {0, 0}, {0, 21}, {0, -1}, {1, -1}, {1, 101}, {2, -1}, {2, 8}, {3, -1}, {3, 2},
            {0, Integer.MAX_VALUE}, {1, Integer.MIN_VALUE}, {2, Integer.MAX_VALUE}, {3, Integer.MIN_VALUE}};
        for (int[] pair : bad) {
            due("change bad, not there " + pair[0] + " " + pair[1], x.change(1, pair[0], pair[1]), BAD);
        }
        for (int what = 0; what < 4; what++) {
            due("change not there " + what, x.change(1, what, 1), NONE);
        }
        x.link(1, 5, 50);
        for (int[] pair : bad) {
            due("change bad " + pair[0] + " " + pair[1], x.change(1, pair[0], pair[1]), BAD);
        }
        for (int code : BAD_CODES) {
            due("change bad code " + code, x.change(code, 0, 1), BAD);
        }
        due("cost as before", x.look(1, 0), 5);
        due("capacity as before", x.look(1, 1), 50);
    }

    private static void look() {
        TunnelNetwork x = new TunnelNetwork();
        for (int code : BAD_CODES) {
            due("look bad code " + code, x.look(code, 0), BAD);
        }
        for (int what : new int[] {Integer.MIN_VALUE, -1, 5, Integer.MAX_VALUE}) {
            due("look bad what " + what, x.look(1, what), BAD);
        }
        for (int what = 0; what < 5; what++) {
            due("look none " + what, x.look(1, what), NONE);
        }
        x.link(1, 7, 60);
        x.want(0, code(0, 1), 20, terms(0, 0));
        x.want(7, code(1, 0), 30, terms(3, 0));
        x.want(6, code(1, 0), 11, terms(3, 0));
        x.change(1, 2, 6);
        due("look cost", x.look(1, 0), 7);
        due("look capacity", x.look(1, 1), 60);
        due("look colours", x.look(1, 2), 6);
        due("look up", x.look(1, 3), 1);
        due("look load", x.look(1, 4), 50);
    }

    private static void room() {
        TunnelNetwork x = new TunnelNetwork();
        for (int code : BAD_CODES) {
            due("room bad code " + code, x.room(code, 0), BAD);
        }
        for (int priority : new int[] {Integer.MIN_VALUE, -1, 4, Integer.MAX_VALUE}) {
            due("room bad priority " + priority, x.room(2, priority), BAD);
        }
        due("room none", x.room(2, 3), NONE);
        x.link(2, 1, 100);
        x.want(0, 2, 40, terms(1, 0));
        x.want(1, 2, 30, terms(2, 0));
        x.want(2, 2, 30, terms(3, 0));
        due("room 0", x.room(2, 0), 1100);
        due("room 1", x.room(2, 1), 1060);
        due("room 2", x.room(2, 2), 1030);
        due("room 3", x.room(2, 3), 1000);
    }

    private static void want() {
        TunnelNetwork x = new TunnelNetwork();
        x.link(1, 1, 100);
        due("want most", x.want(7, code(0, 1), 100, 31), 1);
        due("same priority does not drive out", x.want(0, code(0, 1), 1, 31), 0);
        due("more urgent drives out", x.want(1, code(1, 0), 1, terms(2, 7)), 1);
        due("driven out", x.state(7), 1);
        due("the idle one takes the room", x.state(0), 2);
        due("want all, most urgent", x.want(2, code(1, 0), 100, 0), 1);
        due("only it is placed", x.over(1), 1);
        due("want what it cannot have", x.want(3, code(1, 0), 1, 7), 0);
        due("idle", x.state(3), 1);
        due("colours are avoided", x.link(2, 1, 100), 1);
        x.change(2, 2, 4);
        due("avoiding another colour", x.want(4, code(0, 2), 1, 3), 1);
        due("avoiding its colour", x.want(5, code(0, 2), 1, 4), 0);
    }

    private static void wantRefused() {
        TunnelNetwork x = new TunnelNetwork();
        for (int pass = 0; pass < 2; pass++) {
            for (int t : BAD_TUNNELS) {
                due("want bad t " + t, x.want(t, 1, 1, 0), BAD);
            }
            for (int ends : BAD_ENDS) {
                due("want bad ends " + ends, x.want(0, ends, 1, 0), BAD);
            }
            for (int bandwidth : BAD_BANDWIDTHS) {
                due("want bad bandwidth " + bandwidth, x.want(0, 1, bandwidth, 0), BAD);
            }
            for (int terms : BAD_TERMS) {
                due("want bad terms " + terms, x.want(0, 1, 1, terms), BAD);
            }
            due("state", x.state(0), pass == 0 ? 0 : 1);
            due("want, and again", x.want(0, 1, 1, 0), pass == 0 ? 0 : EXISTS);
        }
    }

    private static void release() {
        TunnelNetwork x = new TunnelNetwork();
        for (int t : BAD_TUNNELS) {
            due("release bad " + t, x.release(t), BAD);
        }
        due("release none", x.release(0), NONE);
        x.link(1, 1, 10);
        x.want(0, 1, 10, 0);
        x.want(1, 1, 5, 0);
        x.want(2, 1, 5, 0);
        x.want(3, 1, 5, 0);
        due("release makes room", x.release(0), 2);
        due("gone", x.state(0), 0);
        due("gone from the link", x.over(1), 2);
        due("in order", x.state(3), 1);
        due("release an idle one", x.release(3), 2);
        due("release again", x.release(0), NONE);
        due("want anew", x.want(0, 1, 1, 0), 0);
    }

    private static void improve() {
        TunnelNetwork x = new TunnelNetwork();
        for (int t : BAD_TUNNELS) {
            due("improve bad " + t, x.improve(t), BAD);
        }
        due("improve none", x.improve(0), NONE);
        x.want(0, code(0, 2), 6, terms(1, 0));
        due("improve idle", x.improve(0), 0);
        x.link(code(0, 2), 5, 10);
        due("improve best already", x.improve(0), 0);
        x.link(code(0, 1), 2, 10);
        x.link(code(1, 2), 3, 10);
        due("same cost, more links", x.improve(0), 0);
        x.change(code(1, 2), 0, 2);
        duePath("a settling does not move it", x, 0, "02");
        due("cheaper", x.improve(0), 1);
        duePath("moved", x, 0, "012");
        due("no more", x.improve(0), 0);
        x.change(code(0, 1), 0, 3);
        due("same cost, fewer links", x.improve(0), 1);
        duePath("moved back", x, 0, "02");
        x.change(code(0, 2), 3, 0);
        x.link(code(0, 3), 3, 10);
        x.link(code(2, 3), 2, 10);
        x.change(code(0, 1), 3, 0);
        duePath("the way round", x, 0, "032");
        x.change(code(0, 1), 3, 1);
        due("same cost and links, lesser node", x.improve(0), 1);
        duePath("over the lesser node", x, 0, "012");
        due("not to the greater node", x.improve(0), 0);
    }

    private static void improveSettles() {
        TunnelNetwork x = new TunnelNetwork();
        x.link(code(0, 1), 9, 10);
        x.want(0, code(0, 1), 8, terms(1, 0));
        x.want(3, code(0, 1), 8, terms(1, 0));
        x.link(code(0, 2), 1, 10);
        x.change(code(0, 2), 2, 1);
        x.want(1, code(0, 2), 5, terms(2, 0));
        x.want(2, code(0, 2), 3, terms(1, 0));
        due("before: three placed", x.link(code(1, 2), 1, 7), 3);
        due("no room", x.improve(0), 0);
        x.change(code(0, 2), 1, 11);
        due("one in, one out", x.change(code(1, 2), 1, 8), 3);
        duePath("over the less urgent, beside its equal", x, 3, "021");
        due("1 was driven out", x.state(1), 1);
        x.release(3);
        due("1 came back", x.state(1), 2);
        x.want(4, code(1, 0), 10, terms(3, 0));
        due("4 waits", x.state(4), 1);
        due("own load does not count", x.change(code(0, 1), 1, 10), 3);
        due("moved", x.improve(0), 1);
        duePath("moved over the less urgent", x, 0, "021");
        due("that one was driven out", x.state(1), 1);
        duePath("4 took the way left", x, 4, "10");
    }

    private static void state() {
        TunnelNetwork x = new TunnelNetwork();
        for (int t : BAD_TUNNELS) {
            due("state bad " + t, x.state(t), BAD);
        }
        x.want(7, 1, 1, 0);
        due("state idle", x.state(7), 1);
        x.link(1, 1, 1);
        due("state placed", x.state(7), 2);
        x.release(7);
        due("state none", x.state(7), 0);
    }

    private static void node() {
        TunnelNetwork x = new TunnelNetwork();
        for (int t : BAD_TUNNELS) {
            due("node bad " + t, x.node(t, 0), BAD);
            due("node bad, bad i " + t, x.node(t, -1), BAD);
        }
        due("node not there", x.node(0, 0), NONE);
        x.want(0, code(5, 0), 1, 0);
        x.want(1, code(0, 1), 1, 0);
        due("node idle", x.node(0, 0), NONE);
        x.link(code(0, 1), 1, 9);
        x.link(code(1, 2), 1, 9);
        x.link(code(2, 3), 1, 9);
        x.link(code(3, 4), 1, 9);
        x.link(code(4, 5), 1, 9);
        for (int i = 0; i < 6; i++) {
            due("node of the longest path " + i, x.node(0, i), 5 - i);
        }
        due("short path 0", x.node(1, 0), 0);
        due("short path 1", x.node(1, 1), 1);
        for (int i : new int[] {Integer.MIN_VALUE, -6, -1, 6, 7, 48, Integer.MAX_VALUE}) {
            due("no such node " + i, x.node(0, i), NONE);
            due("no such node of the short path " + i, x.node(1, i), NONE);
        }
        due("past the short path", x.node(1, 2), NONE);
        x.change(code(2, 3), 3, 0);
        due("idle again", x.node(0, 0), NONE);
    }

    private static void cost() {
        TunnelNetwork x = new TunnelNetwork();
        for (int t : BAD_TUNNELS) {
            due("cost bad " + t, x.cost(t), BAD);
        }
        due("cost not there", x.cost(3), NONE);
        x.want(3, code(2, 0), 1, 0);
        due("cost idle", x.cost(3), NONE);
        x.link(code(0, 1), 20, 9);
        x.link(code(1, 2), 7, 9);
        due("cost", x.cost(3), 27);
        x.change(code(0, 1), 0, 2);
        due("cost as it is now", x.cost(3), 9);
        x.link(code(0, 2), 1, 9);
        due("cost of its own path", x.cost(3), 9);
    }

    private static void over() {
        TunnelNetwork x = new TunnelNetwork();
        for (int code : BAD_CODES) {
            due("over bad " + code, x.over(code), BAD);
        }
        due("over none", x.over(1), NONE);
        x.link(code(0, 1), 1, 9);
        x.link(code(1, 2), 1, 9);
        due("over empty", x.over(1), 0);
        x.want(0, code(0, 1), 3, 0);
        x.want(5, code(2, 0), 3, 0);
        x.want(6, code(1, 2), 3, 0);
        x.want(7, code(1, 2), 4, 0);
        due("over 01", x.over(code(0, 1)), 2);
        due("over 12", x.over(code(1, 2)), 2);
    }

    private static void quote() {
        TunnelNetwork x = new TunnelNetwork();
        for (int ends : BAD_ENDS) {
            due("quote bad ends " + ends, x.quote(ends, 1, 0), BAD);
        }
        for (int bandwidth : BAD_BANDWIDTHS) {
            due("quote bad bandwidth " + bandwidth, x.quote(1, bandwidth, 0), BAD);
        }
        for (int terms : BAD_TERMS) {
            due("quote bad terms " + terms, x.quote(1, 1, terms), BAD);
        }
        due("quote none", x.quote(1, 1, 0), NONE);
        x.link(code(0, 1), 20, 100);
        x.link(code(1, 2), 20, 50);
        x.link(code(2, 3), 20, 100);
        x.link(code(3, 4), 20, 100);
        x.link(code(4, 5), 20, 100);
        due("quote the longest", x.quote(code(5, 0), 50, 0), 100);
        due("quote too wide", x.quote(code(5, 0), 51, 0), NONE);
        x.want(0, code(1, 2), 30, terms(2, 0));
        due("quote beside an equal", x.quote(code(0, 2), 20, terms(2, 0)), 40);
        due("quote too wide beside an equal", x.quote(code(0, 2), 21, terms(2, 0)), NONE);
        due("quote beside a more urgent one", x.quote(code(0, 2), 21, terms(3, 0)), NONE);
        due("quote over a less urgent one", x.quote(code(0, 2), 50, terms(1, 0)), 40);
        x.change(code(0, 1), 2, 2);
        due("quote avoiding", x.quote(code(0, 2), 1, terms(1, 2)), NONE);
        due("quote avoiding others", x.quote(code(0, 2), 1, terms(1, 5)), 40);
        x.change(code(0, 1), 3, 0);
        due("quote down", x.quote(code(0, 2), 1, 0), NONE);
        due("nothing was placed", x.over(code(1, 2)), 1);
        due("nothing was made", x.state(1), 0);
    }

    private static void widest() {
        TunnelNetwork x = new TunnelNetwork();
        for (int ends : BAD_ENDS) {
            due("widest bad ends " + ends, x.widest(ends, 0), BAD);
        }
        for (int terms : BAD_TERMS) {
            due("widest bad terms " + terms, x.widest(1, terms), BAD);
        }
        x.link(code(0, 5), 1, 10);
        x.link(code(0, 1), 20, 100);
        x.link(code(1, 5), 20, 100);
        due("the widest, not the best", x.widest(code(5, 0), 31), 100);
        x.change(code(1, 5), 1, 60);
        due("the narrowest link of it", x.widest(code(0, 5), 0), 60);
        x.want(0, code(1, 5), 40, terms(1, 0));
        due("room for equals", x.widest(code(0, 5), terms(1, 0)), 20);
        due("room for less urgent ones", x.widest(code(0, 5), terms(2, 0)), 20);
        due("room for more urgent ones", x.widest(code(0, 5), terms(0, 0)), 60);
        x.change(code(0, 1), 2, 1);
        due("avoiding", x.widest(code(0, 5), terms(0, 1)), 10);
        x.change(code(0, 5), 1, 1);
        due("1", x.widest(code(0, 5), terms(0, 1)), 1);
        x.change(code(0, 5), 1, 0);
        due("0", x.widest(code(0, 5), terms(0, 1)), 0);
        x.change(code(0, 1), 3, 0);
        due("down", x.widest(code(0, 5), terms(0, 0)), 0);
    }

    private static void flow() {
        TunnelNetwork x = new TunnelNetwork();
        for (int ends : BAD_ENDS) {
            due("flow bad ends " + ends, x.flow(ends, 0), BAD);
        }
        for (int terms : BAD_TERMS) {
            due("flow bad terms " + terms, x.flow(1, terms), BAD);
        }
        for (int code : GOOD_CODES) {
            x.link(code, 1, 100);
        }
        due("flow over all", x.flow(code(0, 5), 0), 500);
        x.unlink(code(0, 3));
        x.unlink(code(0, 4));
        x.unlink(code(0, 5));
        x.unlink(code(1, 5));
        x.unlink(code(2, 5));
        due("flow out of one node", x.flow(code(0, 5), 0), 200);
        x.change(code(3, 5), 1, 30);
        x.change(code(4, 5), 1, 40);
        due("flow into the other", x.flow(code(0, 5), 0), 70);
        due("flow back", x.flow(code(5, 0), 0), 70);
        x.want(0, code(3, 5), 25, terms(2, 0));
        due("flow beside an equal", x.flow(code(0, 5), terms(2, 0)), 45);
        due("flow over a less urgent one", x.flow(code(0, 5), terms(1, 0)), 70);
        x.change(code(4, 5), 2, 4);
        due("flow avoiding", x.flow(code(0, 5), terms(3, 4)), 5);
        x.change(code(3, 5), 3, 0);
        due("0's tunnel went round", x.cost(0), 2);
        due("flow none", x.flow(code(0, 5), terms(3, 4)), 0);
        due("flow left", x.flow(code(0, 5), terms(3, 0)), 15);
        flowSharesALink();
    }

    private static void flowSharesALink() {
        // The middle link 1-2 has to be used against the order of its nodes.
        TunnelNetwork x = new TunnelNetwork();
        x.link(code(0, 2), 1, 10);
        x.link(code(1, 2), 1, 4);
        x.link(code(1, 5), 1, 10);
        x.link(code(2, 5), 1, 3);
        x.link(code(0, 1), 1, 2);
        due("flow against the order", x.flow(code(0, 5), 0), 9);
        due("flow back", x.flow(code(5, 0), 0), 9);
        due("flow between the middle nodes", x.flow(code(1, 2), 0), 9);
    }

    private static void bridge() {
        TunnelNetwork x = new TunnelNetwork();
        for (int code : BAD_CODES) {
            due("bridge bad " + code, x.bridge(code), BAD);
        }
        due("bridge none", x.bridge(1), NONE);
        x.link(code(0, 1), 1, 0);
        due("bridge", x.bridge(code(0, 1)), 1);
        x.link(code(0, 5), 1, 0);
        x.link(code(4, 5), 1, 0);
        x.link(code(3, 4), 1, 0);
        x.link(code(2, 3), 1, 0);
        due("bridge of a chain", x.bridge(code(0, 1)), 1);
        due("bridge inside a chain", x.bridge(code(4, 5)), 1);
        x.link(code(1, 2), 1, 0);
        due("no bridge in a ring", x.bridge(code(0, 1)), 0);
        due("no bridge in a ring", x.bridge(code(4, 5)), 0);
        x.change(code(4, 5), 3, 0);
        due("a link that is down is none", x.bridge(code(4, 5)), 0);
        due("nor a way round", x.bridge(code(0, 1)), 1);
        x.change(code(4, 5), 3, 1);
        x.change(code(4, 5), 2, 7);
        due("colours do not matter", x.bridge(code(0, 1)), 0);
    }

    private static void groups() {
        TunnelNetwork x = new TunnelNetwork();
        x.link(code(4, 5), 1, 0);
        due("groups 5", x.groups(), 5);
        x.link(code(0, 1), 1, 0);
        x.link(code(2, 3), 1, 0);
        due("groups 3", x.groups(), 3);
        x.link(code(1, 2), 1, 0);
        due("groups 2", x.groups(), 2);
        x.link(code(0, 3), 1, 0);
        due("a ring joins nothing", x.groups(), 2);
        x.link(code(0, 5), 1, 0);
        due("groups 1", x.groups(), 1);
        x.change(code(0, 5), 3, 0);
        due("down", x.groups(), 2);
        x.change(code(0, 5), 3, 1);
        x.change(code(0, 5), 2, 7);
        due("up with colours", x.groups(), 1);
        x.unlink(code(0, 5));
        due("unlinked", x.groups(), 2);
    }

    private static void betterPaths() {
        TunnelNetwork x = new TunnelNetwork();
        x.link(code(0, 1), 1, 100);
        x.link(code(1, 4), 1, 100);
        x.link(code(4, 5), 1, 100);
        x.link(code(0, 2), 1, 100);
        x.link(code(2, 3), 1, 100);
        x.link(code(3, 5), 1, 100);
        x.want(0, code(0, 5), 1, 0);
        duePath("lesser node first", x, 0, "0145");
        x.want(1, code(5, 0), 1, 0);
        duePath("from the first end on", x, 1, "5320");
        x.link(code(0, 5), 4, 100);
        x.want(2, code(0, 5), 1, 0);
        duePath("cost before links", x, 2, "0145");
        x.change(code(0, 5), 0, 3);
        x.want(3, code(0, 5), 1, 0);
        duePath("links before nodes", x, 3, "05");
        x.change(code(0, 5), 0, 20);
        x.change(code(4, 5), 0, 2);
        x.want(4, code(0, 5), 1, 0);
        duePath("cost before nodes", x, 4, "0235");
        x.link(code(1, 3), 1, 100);
        x.want(5, code(0, 5), 1, 0);
        duePath("the first place at which they differ", x, 5, "0135");
    }

    private static void longestPathAgainstOneLink() {
        TunnelNetwork x = new TunnelNetwork();
        x.link(code(0, 1), 1, 100);
        x.link(code(1, 2), 1, 100);
        x.link(code(2, 3), 1, 100);
        x.link(code(3, 4), 1, 100);
        x.link(code(4, 5), 1, 100);
        x.link(code(0, 5), 6, 100);
        x.want(0, code(0, 5), 1, 0);
        duePath("five links for 5 rather than one for 6", x, 0, "012345");
        due("improve finds the same", x.improve(0), 0);
        x.change(code(0, 5), 0, 5);
        due("one link for 5 rather than five", x.improve(0), 1);
        duePath("one link", x, 0, "05");
    }

    private static void settlingDropsBroken() {
        TunnelNetwork x = new TunnelNetwork();
        x.link(code(0, 1), 1, 10);
        x.link(code(1, 2), 1, 10);
        x.want(0, code(0, 2), 5, terms(0, 1));
        x.want(1, code(0, 2), 5, terms(3, 2));
        x.want(2, code(0, 1), 5, terms(3, 2));
        due("one avoids the colour", x.change(code(1, 2), 2, 1), 2);
        due("it is idle", x.state(0), 1);
        due("it left its other link", x.look(code(0, 1), 4), 10);
        due("the other is not", x.state(1), 2);
        due("down", x.change(code(1, 2), 3, 0), 1);
        due("away", x.unlink(code(0, 1)), 0);
    }

    private static void settlingRelievesLeastCodeFirst() {
        TunnelNetwork x = new TunnelNetwork();
        x.link(code(0, 1), 1, 10);
        x.link(code(1, 2), 1, 10);
        x.want(0, code(0, 2), 4, terms(2, 0));
        x.want(1, code(0, 1), 6, terms(1, 0));
        x.want(2, code(1, 2), 6, terms(3, 0));
        // 3 needs all of both links: on 0-1 the tunnel 0 goes first, then 1; on 1-2 then 2.
        due("all give way", x.want(3, code(2, 0), 10, terms(0, 0)), 1);
        due("only 3", x.over(code(0, 1)), 1);
        x.release(3);
        due("all are back", x.over(code(0, 1)) + x.over(code(1, 2)), 4);
        // Both links lack 4: relieving 0-1 of tunnel 0 relieves 1-2 too, so 2 stays.
        due("0 goes for both links", x.want(4, code(0, 2), 4, terms(0, 0)), 1);
        due("0 idle", x.state(0), 1);
        due("1 stays", x.state(1), 2);
        due("2 stays", x.state(2), 2);
    }

    private static void settlingRelievesLeastUrgentFirst() {
        TunnelNetwork x = new TunnelNetwork();
        x.link(1, 1, 20);
        x.want(0, 1, 5, terms(3, 0));
        x.want(1, 1, 5, terms(2, 0));
        x.want(2, 1, 5, terms(3, 0));
        x.want(3, 1, 5, terms(2, 0));
        due("15 left", x.change(1, 1, 15), 3);
        due("the greatest number of the greatest priority", x.state(2), 1);
        due("10 left", x.change(1, 1, 10), 2);
        due("the other of the greatest priority", x.state(0), 1);
        due("9 left", x.change(1, 1, 9), 1);
        due("then the greatest number", x.state(3), 1);
        due("back by priority, then number", x.change(1, 1, 16), 3);
        due("2 still waits", x.state(2), 1);
        due("the most urgent", x.want(4, 1, 9, terms(0, 0)), 1);
        due("the most urgent alone", x.change(1, 1, 9), 1);
        due("even the most urgent", x.change(1, 1, 8), 1);
        due("which is idle then", x.state(4), 1);
        due("while a lesser one fits", x.state(1), 2);
        TunnelNetwork full = new TunnelNetwork();
        full.link(1, 1, 8);
        for (int t = 0; t < 8; t++) {
            full.want(t, 1, 1, terms(t % 4, 0));
        }
        due("all eight", full.over(1), 8);
        due("all eight at once", full.change(1, 1, 0), 0);
        due("none is left", full.over(1), 0);
    }

    private static void settlingPlacesInOrder() {
        TunnelNetwork x = new TunnelNetwork();
        x.want(0, 1, 6, terms(3, 0));
        x.want(1, 1, 6, terms(2, 0));
        x.want(2, 1, 5, terms(1, 0));
        x.want(3, 1, 5, terms(1, 0));
        x.want(4, 1, 11, terms(0, 0));
        due("two fit", x.link(1, 1, 10), 2);
        due("the most urgent is too wide", x.state(4), 1);
        due("the first of the next", x.state(2), 2);
        due("the second of the next", x.state(3), 2);
        due("all of it for the most urgent", x.change(1, 1, 11), 1);
        due("placed", x.state(4), 2);
    }

    private static void settlingPlacesUrgentOnesBeforeLesserNumbers() {
        TunnelNetwork x = new TunnelNetwork();
        x.link(code(1, 5), 1, 5);
        x.link(code(1, 2), 1, 5);
        x.link(code(2, 5), 1, 5);
        x.link(code(1, 3), 2, 5);
        x.link(code(3, 5), 2, 5);
        x.want(0, code(0, 5), 5, terms(2, 0));
        x.want(1, code(0, 5), 5, terms(2, 0));
        x.want(2, code(0, 5), 5, terms(1, 0));
        // Had 0 and 1 been placed first, 2 would drive 0 from the best way, and 0 would be left the third one.
        due("all at once", x.link(code(0, 1), 1, 100), 3);
        duePath("the urgent one first", x, 2, "015");
        duePath("then the lesser number", x, 0, "0125");
        duePath("then the greater number", x, 1, "0135");
    }

    private static void settlingGoesOnAfterPlacing() {
        TunnelNetwork x = new TunnelNetwork();
        x.link(code(0, 1), 1, 10);
        x.link(code(0, 2), 1, 6);
        x.link(code(1, 2), 1, 6);
        x.want(0, code(0, 1), 6, terms(2, 0));
        x.want(1, code(0, 2), 5, terms(3, 0));
        // 2 drives 0 to the way round, where 0 drives out 1, for which nothing is left.
        due("placed", x.want(2, code(0, 1), 9, terms(1, 0)), 1);
        duePath("0 went round", x, 0, "021");
        due("1 is idle", x.state(1), 1);
        due("2 goes", x.release(2), 1);
        duePath("0 stays where it is", x, 0, "021");
        due("1 has no way yet", x.state(1), 1);
        x.link(code(2, 3), 1, 5);
        due("1 finds another way", x.link(code(0, 3), 1, 5), 2);
        duePath("1 went round", x, 1, "032");
    }

    private static void refusedCallsChangeNothing() {
        TunnelNetwork x = new TunnelNetwork();
        x.link(code(0, 1), 3, 10);
        x.want(0, code(1, 0), 7, terms(2, 1));
        x.link(code(0, 1), 4, 20);
        x.link(code(0, 1), 4, 101);
        x.want(0, code(0, 1), 2, terms(0, 0));
        x.want(1, code(0, 1), 2, terms(4, 0));
        x.change(code(0, 1), 1, 101);
        x.unlink(code(1, 0));
        x.release(-1);
        x.release(1);
        due("cost", x.look(1, 0), 3);
        due("capacity", x.look(1, 1), 10);
        due("load", x.look(1, 4), 7);
        due("room", x.room(1, 1), 1010);
        due("no tunnel 1", x.state(1), 0);
        duePath("path", x, 0, "10");
    }
}
