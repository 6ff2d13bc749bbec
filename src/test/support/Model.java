import java.util.ArrayList;
import java.util.List;

/** A second, slow program that follows the document's words by trying all paths. */
final class Model extends Network {
    private static final class Link {
        int a;
        int b;
        int cost;
        int capacity;
        int colours;
        boolean up = true;
    }

    private static final class Tunnel {
        int first;
        int second;
        int bandwidth;
        int priority;
        int avoided;
        List<Integer> path;
    }

    final Link[] links = new Link[36];
    final Tunnel[] tunnels = new Tunnel[8];

    static boolean goodCode(int code) {
        for (int a = 0; a < 6; a++) {
            for (int b = a + 1; b < 6; b++) {
                if (code == 6 * a + b) {
                    return true;
                }
            }
        }
        return false;
    }

    static boolean goodEnds(int ends) {
        for (int a = 0; a < 6; a++) {
            for (int b = 0; b < 6; b++) {
                if (a != b && ends == 6 * a + b) {
                    return true;
                }
            }
        }
        return false;
    }

    static boolean badTunnel(int t) {
        return t < 0 || t > 7;
    }

    static boolean badOffer(int ends, int bandwidth, int terms) {
        return !goodEnds(ends) || bandwidth < 1 || bandwidth > 100 || terms < 0 || terms > 31;
    }

    Link between(int a, int b) {
        return a < b ? links[6 * a + b] : links[6 * b + a];
    }

    static boolean passes(Tunnel tunnel, int a, int b) {
        for (int i = 1; tunnel.path != null && i < tunnel.path.size(); i++) {
            int from = tunnel.path.get(i - 1);
            int to = tunnel.path.get(i);
            if (from == a && to == b || from == b && to == a) {
                return true;
            }
        }
        return false;
    }

    int taken(Link link, int mostPriority, Tunnel except) {
        int sum = 0;
        for (Tunnel tunnel : tunnels) {
            if (tunnel != null && tunnel != except && tunnel.priority <= mostPriority
                    && passes(tunnel, link.a, link.b)) {
                sum += tunnel.bandwidth;
            }
        }
        return sum;
    }

    void collect(List<Integer> path, int goal, List<List<Integer>> all) {
        int at = path.get(path.size() - 1);
        if (at == goal) {
            all.add(new ArrayList<>(path));
            return;
        }
        for (int next = 5; next >= 0; next--) {
            if (!path.contains(next) && between(at, next) != null) {
                path.add(next);
                collect(path, goal, all);
                path.remove(path.size() - 1);
            }
        }
    }

    boolean fit(List<Integer> path, Tunnel tunnel) {
        for (int i = 1; i < path.size(); i++) {
            Link link = between(path.get(i - 1), path.get(i));
            if (!link.up || (link.colours & tunnel.avoided) != 0
                    || link.capacity - taken(link, tunnel.priority, tunnel) < tunnel.bandwidth) {
                return false;
            }
        }
        return true;
    }

    int costOf(List<Integer> path) {
        int sum = 0;
        for (int i = 1; i < path.size(); i++) {
            sum += between(path.get(i - 1), path.get(i)).cost;
        }
        return sum;
    }

    boolean better(List<Integer> one, List<Integer> other) {
        if (costOf(one) != costOf(other)) {
            return costOf(one) < costOf(other);
        }
        if (one.size() != other.size()) {
            return one.size() < other.size();
        }
        for (int i = 0; i < one.size(); i++) {
            if (!one.get(i).equals(other.get(i))) {
                return one.get(i) < other.get(i);
            }
        }
        return false;
    }

    List<Integer> best(Tunnel tunnel) {
        List<List<Integer>> all = new ArrayList<>();
        List<Integer> start = new ArrayList<>();
        start.add(tunnel.first);
        collect(start, tunnel.second, all);
        List<Integer> best = null;
        for (List<Integer> path : all) {
            if (fit(path, tunnel) && (best == null || better(path, best))) {
                best = path;
            }
        }
        return best;
    }

    void settle() {
        for (Tunnel tunnel : tunnels) {
            boolean broken = false;
            for (int i = 1; tunnel != null && tunnel.path != null && i < tunnel.path.size(); i++) {
                Link link = between(tunnel.path.get(i - 1), tunnel.path.get(i));
                broken |= link == null || !link.up || (link.colours & tunnel.avoided) != 0;
            }
            if (broken) {
                tunnel.path = null;
            }
        }
        do {
            while (relieveOne()) {
                continue;
            }
        } while (placeOne());
    }

    boolean relieveOne() {
        for (Link link : links) {
            if (link != null && taken(link, 3, null) > link.capacity) {
                for (int priority = 3; priority >= 0; priority--) {
                    for (int t = 7; t >= 0; t--) {
                        Tunnel tunnel = tunnels[t];
                        if (tunnel != null && tunnel.priority == priority && passes(tunnel, link.a, link.b)) {
                            tunnel.path = null;
                            return true;
                        }
                    }
                }
            }
        }
        return false;
    }

    boolean placeOne() {
        for (int priority = 0; priority < 4; priority++) {
            for (Tunnel tunnel : tunnels) {
                if (tunnel != null && tunnel.path == null && tunnel.priority == priority) {
                    tunnel.path = best(tunnel);
                    if (tunnel.path != null) {
                        return true;
                    }
                }
            }
        }
        return false;
    }

    int placed() {
        int count = 0;
        for (Tunnel tunnel : tunnels) {
            count += tunnel != null && tunnel.path != null ? 1 : 0;
        }
        return count;
    }

    @Override
    int link(int code, int cost, int capacity) {
        if (!goodCode(code) || cost < 1 || cost > 20 || capacity < 0 || capacity > 100) {
            return -1;
        }
        if (links[code] != null) {
            return -3;
        }
        Link link = new Link();
        link.a = code / 6;
        link.b = code % 6;
        link.cost = cost;
        link.capacity = capacity;
        links[code] = link;
        settle();
        return placed();
    }

    @Override
    int unlink(int code) {
        if (!goodCode(code)) {
            return -1;
        }
        if (links[code] == null) {
            return -2;
        }
        links[code] = null;
        settle();
        return placed();
    }

    @Override
    int change(int code, int what, int value) {
        int[] least = {1, 0, 0, 0};
        int[] most = {20, 100, 7, 1};
        if (!goodCode(code) || what < 0 || what > 3 || value < least[what] || value > most[what]) {
            return -1;
        }
        Link link = links[code];
        if (link == null) {
            return -2;
        }
        link.cost = what == 0 ? value : link.cost;
        link.capacity = what == 1 ? value : link.capacity;
        link.colours = what == 2 ? value : link.colours;
        link.up = what == 3 ? value == 1 : link.up;
        settle();
        return placed();
    }

    @Override
    int look(int code, int what) {
        if (!goodCode(code) || what < 0 || what > 4) {
            return -1;
        }
        Link link = links[code];
        if (link == null) {
            return -2;
        }
        int[] answers = {link.cost, link.capacity, link.colours, link.up ? 1 : 0, taken(link, 3, null)};
        return answers[what];
    }

    @Override
    int room(int code, int priority) {
        if (!goodCode(code) || priority < 0 || priority > 3) {
            return -1;
        }
        return links[code] == null ? -2 : links[code].capacity - taken(links[code], priority, null) + 1000;
    }

    static Tunnel offer(int ends, int bandwidth, int terms) {
        Tunnel tunnel = new Tunnel();
        tunnel.first = ends / 6;
        tunnel.second = ends % 6;
        tunnel.bandwidth = bandwidth;
        tunnel.priority = terms / 8;
        tunnel.avoided = terms % 8;
        return tunnel;
    }

    @Override
    int want(int t, int ends, int bandwidth, int terms) {
        if (badTunnel(t) || badOffer(ends, bandwidth, terms)) {
            return -1;
        }
        if (tunnels[t] != null) {
            return -3;
        }
        tunnels[t] = offer(ends, bandwidth, terms);
        settle();
        return tunnels[t].path != null ? 1 : 0;
    }

    @Override
    int release(int t) {
        if (badTunnel(t)) {
            return -1;
        }
        if (tunnels[t] == null) {
            return -2;
        }
        tunnels[t] = null;
        settle();
        return placed();
    }

    @Override
    int improve(int t) {
        if (badTunnel(t)) {
            return -1;
        }
        if (tunnels[t] == null) {
            return -2;
        }
        Tunnel tunnel = tunnels[t];
        List<Integer> best = tunnel.path == null ? null : best(tunnel);
        if (best == null || !better(best, tunnel.path)) {
            return 0;
        }
        tunnel.path = best;
        settle();
        return 1;
    }

    @Override
    int state(int t) {
        return badTunnel(t) ? -1 : tunnels[t] == null ? 0 : tunnels[t].path == null ? 1 : 2;
    }

    @Override
    int node(int t, int i) {
        if (state(t) != 2) {
            return badTunnel(t) ? -1 : -2;
        }
        return i >= 0 && i < tunnels[t].path.size() ? tunnels[t].path.get(i) : -2;
    }

    @Override
    int cost(int t) {
        return badTunnel(t) ? -1 : state(t) == 2 ? costOf(tunnels[t].path) : -2;
    }

    @Override
    int over(int code) {
        if (!goodCode(code)) {
            return -1;
        }
        int count = 0;
        for (Tunnel tunnel : tunnels) {
            count += tunnel != null && passes(tunnel, code / 6, code % 6) ? 1 : 0;
        }
        return links[code] == null ? -2 : count;
    }

    @Override
    int quote(int ends, int bandwidth, int terms) {
        if (badOffer(ends, bandwidth, terms)) {
            return -1;
        }
        List<Integer> best = best(offer(ends, bandwidth, terms));
        return best == null ? -2 : costOf(best);
    }

    @Override
    int widest(int ends, int terms) {
        if (badOffer(ends, 1, terms)) {
            return -1;
        }
        int greatest = 0;
        for (int bandwidth = 1; bandwidth <= 100; bandwidth++) {
            if (best(offer(ends, bandwidth, terms)) == null) {
                break;
            }
            greatest = bandwidth;
        }
        return greatest;
    }

    /** Sends one unit after another along a way that has something left. */
    @Override
    int flow(int ends, int terms) {
        if (badOffer(ends, 1, terms)) {
            return -1;
        }
        int[][] left = new int[6][6];
        for (Link link : links) {
            if (link != null && link.up && (link.colours & terms % 8) == 0) {
                int room = Math.max(0, link.capacity - taken(link, terms / 8, null));
                left[link.a][link.b] = room;
                left[link.b][link.a] = room;
            }
        }
        int sent = 0;
        while (sendUnit(left, ends / 6, ends % 6, new boolean[6])) {
            sent++;
        }
        return sent;
    }

    static boolean sendUnit(int[][] left, int at, int goal, boolean[] seen) {
        seen[at] = true;
        if (at == goal) {
            return true;
        }
        for (int next = 0; next < 6; next++) {
            if (!seen[next] && left[at][next] > 0 && sendUnit(left, next, goal, seen)) {
                left[at][next]--;
                left[next][at]++;
                return true;
            }
        }
        return false;
    }

    @Override
    int bridge(int code) {
        if (!goodCode(code)) {
            return -1;
        }
        Link link = links[code];
        if (link == null) {
            return -2;
        }
        if (!link.up) {
            return 0;
        }
        int before = groups();
        link.up = false;
        int without = groups();
        link.up = true;
        return without > before ? 1 : 0;
    }

    @Override
    int groups() {
        int[] group = {0, 1, 2, 3, 4, 5};
        int count = 6;
        for (Link link : links) {
            if (link != null && link.up && group[link.a] != group[link.b]) {
                int old = group[link.b];
                count--;
                for (int i = 0; i < 6; i++) {
                    group[i] = group[i] == old ? group[link.a] : group[i];
                }
            }
        }
        return count;
    }
}
