import java.util.ArrayList;
import java.util.List;

/**
 * Runs of calls on TunnelNetwork beside a model that follows the document's words by trying all paths.
 * The calls come from a fixed sequence, so every run of the test is the same.
 */
public final class ModelTest {
    private static final int RUNS = 10000;
    // Each step makes at most 3 calls and 4 questions: 511 calls, as many as an object is used for.
    private static final int STEPS = 73;
    private static final int QUESTIONS = 4;
    private static int wrong = 0;
    private static long seed = 20261115L;

    private static int next(int bound) {
        seed = seed * 6364136223846793005L + 1442695040888963407L;
        return (int) ((seed >>> 33) % bound);
    }

    private static void due(int run, String call, int got, int want) {
        if (got != want) {
            wrong++;
            if (wrong <= 20) {
                System.out.println("run " + run + ": " + call + " answered " + got + ", due is " + want);
            }
        }
    }

    public static void main(String[] args) {
        for (int run = 0; run < RUNS && wrong == 0; run++) {
            oneRun(run);
        }
        System.out.println(wrong == 0 ? "all answers are as due" : wrong + " answers are not as due");
        if (wrong != 0) {
            System.exit(1);
        }
    }

    private static void oneRun(int run) {
        TunnelNetwork x = new TunnelNetwork();
        Model m = new Model();
        // Few costs make ties, low capacities make tunnels drive each other out.
        int mostCost = 1 + next(run % 3 == 0 ? 20 : 3);
        int mostCapacity = 5 + next(96);
        int mostBandwidth = 1 + next(mostCapacity);
        int colourful = next(3);
        for (int i = 0; i < STEPS; i++) {
            boolean wild = next(25) == 0;
            int code = wild ? next(45) - 5 : anyCode();
            int ends = wild ? next(45) - 5 : anyEnds();
            int t = wild ? next(12) - 2 : next(8);
            int cost = wild ? next(25) - 2 : 1 + next(mostCost);
            int capacity = wild ? next(110) - 5 : next(mostCapacity + 1);
            int bandwidth = wild ? next(110) - 5 : 1 + next(mostBandwidth);
            int terms = wild ? next(40) - 4 : 8 * next(4) + (colourful == 0 ? 0 : next(8) & next(8));
            int call = next(i < 12 ? 1 : 20);
            if (call <= 1) {
                due(run, "link " + code + " " + cost + " " + capacity,
                    x.link(code, cost, capacity), m.link(code, cost, capacity));
            } else if (call <= 2) {
                due(run, "unlink " + code,
                    x.unlink(code), m.unlink(code));
            } else if (call <= 6) {
                int what = wild ? next(7) - 1 : next(4);
                int value = what == 0 ? cost : what == 1 ? capacity : what == 2 ? terms % 8 : next(wild ? 4 : 2);
                due(run, "change " + code + " " + what + " " + value,
                    x.change(code, what, value), m.change(code, what, value));
            } else if (call <= 13) {
                due(run, "want " + t + " " + ends + " " + bandwidth + " " + terms,
                    x.want(t, ends, bandwidth, terms), m.want(t, ends, bandwidth, terms));
            } else if (call <= 15) {
                due(run, "release " + t,
                    x.release(t), m.release(t));
            } else if (call <= 17) {
                due(run, "improve " + t,
                    x.improve(t), m.improve(t));
            } else {
                due(run, "quote " + ends + " " + bandwidth + " " + terms,
                    x.quote(ends, bandwidth, terms), m.quote(ends, bandwidth, terms));
                due(run, "widest " + ends + " " + terms,
                    x.widest(ends, terms), m.widest(ends, terms));
                due(run, "flow " + ends + " " + terms,
                    x.flow(ends, terms), m.flow(ends, terms));
            }
            for (int question = 0; question < QUESTIONS; question++) {
                ask(run, x, m);
            }
        }
    }

    private static int anyEnds() {
        int a = next(6);
        return 6 * a + (a + 1 + next(5)) % 6;
    }

    private static int anyCode() {
        int ends = anyEnds();
        int a = ends / 6;
        int b = ends % 6;
        return a < b ? ends : 6 * b + a;
    }

    private static void ask(int run, TunnelNetwork x, Model m) {
        boolean wild = next(25) == 0;
        int code = wild ? next(45) - 5 : anyCode();
        int t = wild ? next(12) - 2 : next(8);
        switch (next(8)) {
            case 0:
                due(run, "groups", x.groups(), m.groups());
                break;
            case 1:
                due(run, "state " + t, x.state(t), m.state(t));
                break;
            case 2:
                due(run, "cost " + t, x.cost(t), m.cost(t));
                break;
            case 3:
                int i = next(wild ? 9 : 4) - (wild ? 1 : 0);
                due(run, "node " + t + " " + i, x.node(t, i), m.node(t, i));
                break;
            case 4:
                int what = wild ? next(8) - 1 : next(5);
                due(run, "look " + code + " " + what, x.look(code, what), m.look(code, what));
                break;
            case 5:
                int priority = wild ? next(7) - 1 : next(4);
                due(run, "room " + code + " " + priority, x.room(code, priority), m.room(code, priority));
                break;
            case 6:
                due(run, "over " + code, x.over(code), m.over(code));
                break;
            default:
                due(run, "bridge " + code, x.bridge(code), m.bridge(code));
                break;
        }
    }

    private static final class Link {
        int a;
        int b;
        int cost;
        int capacity;
        int colours;
        boolean up = true;
    }

    private static final class Tunnel {
        int first;
        int second;
        int bandwidth;
        int priority;
        int avoided;
        List<Integer> path;
    }

    private static final class Model {
        final Link[] links = new Link[36];
        final Tunnel[] tunnels = new Tunnel[8];

        static boolean goodCode(int code) {
            for (int a = 0; a < 6; a++) {
                for (int b = a + 1; b < 6; b++) {
                    if (code == 6 * a + b) {
                        return true;
                    }
                }
            }
            return false;
        }

        static boolean goodEnds(int ends) {
            for (int a = 0; a < 6; a++) {
                for (int b = 0; b < 6; b++) {
                    if (a != b && ends == 6 * a + b) {
                        return true;
                    }
                }
            }
            return false;
        }

        static boolean badTunnel(int t) {
            return t < 0 || t > 7;
        }

        static boolean badOffer(int ends, int bandwidth, int terms) {
            return !goodEnds(ends) || bandwidth < 1 || bandwidth > 100 || terms < 0 || terms > 31;
        }

        Link between(int a, int b) {
            return a < b ? links[6 * a + b] : links[6 * b + a];
        }

        static boolean passes(Tunnel tunnel, int a, int b) {
            for (int i = 1; tunnel.path != null && i < tunnel.path.size(); i++) {
                int from = tunnel.path.get(i - 1);
                int to = tunnel.path.get(i);
                if (from == a && to == b || from == b && to == a) {
                    return true;
                }
            }
            return false;
        }

        int taken(Link link, int mostPriority, Tunnel except) {
            int sum = 0;
            for (Tunnel tunnel : tunnels) {
                if (tunnel != null && tunnel != except && tunnel.priority <= mostPriority
                        && passes(tunnel, link.a, link.b)) {
                    sum += tunnel.bandwidth;
                }
            }
            return sum;
        }

        void collect(List<Integer> path, int goal, List<List<Integer>> all) {
            int at = path.get(path.size() - 1);
            if (at == goal) {
                all.add(new ArrayList<>(path));
                return;
            }
            for (int next = 5; next >= 0; next--) {
                if (!path.contains(next) && between(at, next) != null) {
                    path.add(next);
                    collect(path, goal, all);
                    path.remove(path.size() - 1);
                }
            }
        }

        boolean fit(List<Integer> path, Tunnel tunnel) {
            for (int i = 1; i < path.size(); i++) {
                Link link = between(path.get(i - 1), path.get(i));
                if (!link.up || (link.colours & tunnel.avoided) != 0
                        || link.capacity - taken(link, tunnel.priority, tunnel) < tunnel.bandwidth) {
                    return false;
                }
            }
            return true;
        }

        int costOf(List<Integer> path) {
            int sum = 0;
            for (int i = 1; i < path.size(); i++) {
                sum += between(path.get(i - 1), path.get(i)).cost;
            }
            return sum;
        }

        boolean better(List<Integer> one, List<Integer> other) {
            if (costOf(one) != costOf(other)) {
                return costOf(one) < costOf(other);
            }
            if (one.size() != other.size()) {
                return one.size() < other.size();
            }
            for (int i = 0; i < one.size(); i++) {
                if (!one.get(i).equals(other.get(i))) {
                    return one.get(i) < other.get(i);
                }
            }
            return false;
        }

        List<Integer> best(Tunnel tunnel) {
            List<List<Integer>> all = new ArrayList<>();
            List<Integer> start = new ArrayList<>();
            start.add(tunnel.first);
            collect(start, tunnel.second, all);
            List<Integer> best = null;
            for (List<Integer> path : all) {
                if (fit(path, tunnel) && (best == null || better(path, best))) {
                    best = path;
                }
            }
            return best;
        }

        void settle() {
            for (Tunnel tunnel : tunnels) {
                boolean broken = false;
                for (int i = 1; tunnel != null && tunnel.path != null && i < tunnel.path.size(); i++) {
                    Link link = between(tunnel.path.get(i - 1), tunnel.path.get(i));
                    broken |= link == null || !link.up || (link.colours & tunnel.avoided) != 0;
                }
                if (broken) {
                    tunnel.path = null;
                }
            }
            do {
                while (relieveOne()) {
                    continue;
                }
            } while (placeOne());
        }

        boolean relieveOne() {
            for (Link link : links) {
                if (link != null && taken(link, 3, null) > link.capacity) {
                    for (int priority = 3; priority >= 0; priority--) {
                        for (int t = 7; t >= 0; t--) {
                            Tunnel tunnel = tunnels[t];
                            if (tunnel != null && tunnel.priority == priority && passes(tunnel, link.a, link.b)) {
                                tunnel.path = null;
                                return true;
                            }
                        }
                    }
                }
            }
            return false;
        }

        boolean placeOne() {
            for (int priority = 0; priority < 4; priority++) {
                for (Tunnel tunnel : tunnels) {
                    if (tunnel != null && tunnel.path == null && tunnel.priority == priority) {
                        tunnel.path = best(tunnel);
                        if (tunnel.path != null) {
                            return true;
                        }
                    }
                }
            }
            return false;
        }

        int placed() {
            int count = 0;
            for (Tunnel tunnel : tunnels) {
                count += tunnel != null && tunnel.path != null ? 1 : 0;
            }
            return count;
        }

        int link(int code, int cost, int capacity) {
            if (!goodCode(code) || cost < 1 || cost > 20 || capacity < 0 || capacity > 100) {
                return -1;
            }
            if (links[code] != null) {
                return -3;
            }
            Link link = new Link();
            link.a = code / 6;
            link.b = code % 6;
            link.cost = cost;
            link.capacity = capacity;
            links[code] = link;
            settle();
            return placed();
        }

        int unlink(int code) {
            if (!goodCode(code)) {
                return -1;
            }
            if (links[code] == null) {
                return -2;
            }
            links[code] = null;
            settle();
            return placed();
        }

        int change(int code, int what, int value) {
            int[] least = {1, 0, 0, 0};
            int[] most = {20, 100, 7, 1};
            if (!goodCode(code) || what < 0 || what > 3 || value < least[what] || value > most[what]) {
                return -1;
            }
            Link link = links[code];
            if (link == null) {
                return -2;
            }
            link.cost = what == 0 ? value : link.cost;
            link.capacity = what == 1 ? value : link.capacity;
            link.colours = what == 2 ? value : link.colours;
            link.up = what == 3 ? value == 1 : link.up;
            settle();
            return placed();
        }

        int look(int code, int what) {
            if (!goodCode(code) || what < 0 || what > 4) {
                return -1;
            }
            Link link = links[code];
            if (link == null) {
                return -2;
            }
            int[] answers = {link.cost, link.capacity, link.colours, link.up ? 1 : 0, taken(link, 3, null)};
            return answers[what];
        }

        int room(int code, int priority) {
            if (!goodCode(code) || priority < 0 || priority > 3) {
                return -1;
            }
            return links[code] == null ? -2 : links[code].capacity - taken(links[code], priority, null) + 1000;
        }

        static Tunnel offer(int ends, int bandwidth, int terms) {
            Tunnel tunnel = new Tunnel();
            tunnel.first = ends / 6;
            tunnel.second = ends % 6;
            tunnel.bandwidth = bandwidth;
            tunnel.priority = terms / 8;
            tunnel.avoided = terms % 8;
            return tunnel;
        }

        int want(int t, int ends, int bandwidth, int terms) {
            if (badTunnel(t) || badOffer(ends, bandwidth, terms)) {
                return -1;
            }
            if (tunnels[t] != null) {
                return -3;
            }
            tunnels[t] = offer(ends, bandwidth, terms);
            settle();
            return tunnels[t].path != null ? 1 : 0;
        }

        int release(int t) {
            if (badTunnel(t)) {
                return -1;
            }
            if (tunnels[t] == null) {
                return -2;
            }
            tunnels[t] = null;
            settle();
            return placed();
        }

        int improve(int t) {
            if (badTunnel(t)) {
                return -1;
            }
            if (tunnels[t] == null) {
                return -2;
            }
            Tunnel tunnel = tunnels[t];
            List<Integer> best = tunnel.path == null ? null : best(tunnel);
            if (best == null || !better(best, tunnel.path)) {
                return 0;
            }
            tunnel.path = best;
            settle();
            return 1;
        }

        int state(int t) {
            return badTunnel(t) ? -1 : tunnels[t] == null ? 0 : tunnels[t].path == null ? 1 : 2;
        }

        int node(int t, int i) {
            if (state(t) != 2) {
                return badTunnel(t) ? -1 : -2;
            }
            return i >= 0 && i < tunnels[t].path.size() ? tunnels[t].path.get(i) : -2;
        }

        int cost(int t) {
            return badTunnel(t) ? -1 : state(t) == 2 ? costOf(tunnels[t].path) : -2;
        }

        int over(int code) {
            if (!goodCode(code)) {
                return -1;
            }
            int count = 0;
            for (Tunnel tunnel : tunnels) {
                count += tunnel != null && passes(tunnel, code / 6, code % 6) ? 1 : 0;
            }
            return links[code] == null ? -2 : count;
        }

        int quote(int ends, int bandwidth, int terms) {
            if (badOffer(ends, bandwidth, terms)) {
                return -1;
            }
            List<Integer> best = best(offer(ends, bandwidth, terms));
            return best == null ? -2 : costOf(best);
        }

        int widest(int ends, int terms) {
            if (badOffer(ends, 1, terms)) {
                return -1;
            }
            int greatest = 0;
            for (int bandwidth = 1; bandwidth <= 100; bandwidth++) {
                if (best(offer(ends, bandwidth, terms)) == null) {
                    break;
                }
                greatest = bandwidth;
            }
            return greatest;
        }

        /** Sends one unit after another along a way that has something left. */
        int flow(int ends, int terms) {
            if (badOffer(ends, 1, terms)) {
                return -1;
            }
            int[][] left = new int[6][6];
            for (Link link : links) {
                if (link != null && link.up && (link.colours & terms % 8) == 0) {
                    int room = Math.max(0, link.capacity - taken(link, terms / 8, null));
                    left[link.a][link.b] = room;
                    left[link.b][link.a] = room;
                }
            }
            int sent = 0;
            while (sendUnit(left, ends / 6, ends % 6, new boolean[6])) {
                sent++;
            }
            return sent;
        }

        static boolean sendUnit(int[][] left, int at, int goal, boolean[] seen) {
            seen[at] = true;
            if (at == goal) {
                return true;
            }
            for (int next = 0; next < 6; next++) {
                if (!seen[next] && left[at][next] > 0 && sendUnit(left, next, goal, seen)) {
                    left[at][next]--;
                    left[next][at]++;
                    return true;
                }
            }
            return false;
        }

        int bridge(int code) {
            if (!goodCode(code)) {
                return -1;
            }
            Link link = links[code];
            if (link == null) {
                return -2;
            }
            if (!link.up) {
                return 0;
            }
            int before = groups();
            link.up = false;
            int without = groups();
            link.up = true;
            return without > before ? 1 : 0;
        }

        int groups() {
            int[] group = {0, 1, 2, 3, 4, 5};
            int count = 6;
            for (Link link : links) {
                if (link != null && link.up && group[link.a] != group[link.b]) {
                    int old = group[link.b];
                    count--;
                    for (int i = 0; i < 6; i++) {
                        group[i] = group[i] == old ? group[link.a] : group[i];
                    }
                }
            }
            return count;
        }
    }
}
