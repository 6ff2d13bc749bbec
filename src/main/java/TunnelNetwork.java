/** Tunnels with bandwidth through a network of links, the urgent ones first. */
public final class TunnelNetwork {
    public static final int BAD = -1;
    public static final int NONE = -2;
    public static final int EXISTS = -3;

    private static final int NODES = 6;
    private static final int CODES = 36;
    private static final int TUNNELS = 8;
    private static final int PATH_PLACES = 48;
    private static final int PRIORITIES = 4;
    private static final int COLOUR_SETS = 8;
    private static final int NODE_SETS = 64;

    private static final int MOST_COST = 20;
    private static final int MOST_CAPACITY = 100;
    private static final int MOST_BANDWIDTH = 100;
    private static final int ROOM_SHIFT = 1000;

    private static final int COST = 0;
    private static final int CAPACITY = 1;
    private static final int COLOURS = 2;
    private static final int UP = 3;
    private static final int LOAD = 4;

    private static final int NOT_THERE = 0;
    private static final int IDLE = 1;
    private static final int PLACED = 2;

    private static final int NO_TUNNEL = -1;
    private static final int NO_LINK = -1;

    // A path has at most 5 links, so a unit of cost outweighs every number of links.
    private static final int COST_UNIT = 8;
    // Above the rank of every path (5 links of cost 20) and above all rooms together.
    private static final int FAR = 1000000;
    // A placed tunnel only ever drives out less urgent ones, so the numbers of placed tunnels
    // by priority grow in dictionary order. There are 495 such numbers for at most 8 tunnels,
    // so a settling places fewer than that.
    private static final int MOST_ROUNDS = 1000000;

    private final boolean[] linkThere = new boolean[CODES];
    private final boolean[] linkUp = new boolean[CODES];
    private final int[] linkCost = new int[CODES];
    private final int[] linkCapacity = new int[CODES];
    private final int[] linkColours = new int[CODES];

    private final int[] tunnelState = new int[TUNNELS];
    private final int[] tunnelEnds = new int[TUNNELS];
    private final int[] tunnelBandwidth = new int[TUNNELS];
    private final int[] tunnelPriority = new int[TUNNELS];
    private final int[] tunnelAvoided = new int[TUNNELS];
    // The links of a placed tunnel, bit c for the link with code c; 0 if it is not placed.
    // Codes go past 31, where a shift of an int would wrap around.
    private final long[] tunnelLinks = new long[TUNNELS];
    private final int[] pathNode = new int[PATH_PLACES];
    private final int[] pathLength = new int[TUNNELS];

    // What a search for a path works with; nothing in it outlives a call.
    private final int[] openRoom = new int[CODES];
    private final int[] rankToGoal = new int[NODES];
    private final int[] foundNode = new int[NODES];
    private int foundLength;

    // What a new array holds is already a network without links and tunnels.
    public TunnelNetwork() {
    }

    public int link(int code, int cost, int capacity) {
        if (!isGoodCode(code) || !isWithin(cost, 1, MOST_COST) || !isWithin(capacity, 0, MOST_CAPACITY)) {
            return BAD;
        }
        if (linkThere[code]) {
            return EXISTS;
        }
        linkThere[code] = true;
        linkUp[code] = true;
        linkCost[code] = cost;
        linkCapacity[code] = capacity;
        linkColours[code] = 0;
        settle();
        return countPlaced();
    }

    public int unlink(int code) {
        if (!isGoodCode(code)) {
            return BAD;
        }
        if (!linkThere[code]) {
            return NONE;
        }
        linkThere[code] = false;
        settle();
        return countPlaced();
    }

    public int change(int code, int what, int value) {
        if (!isGoodCode(code) || !isGoodValue(what, value)) {
            return BAD;
        }
        if (!linkThere[code]) {
            return NONE;
        }
        switch (what) {
            case COST:
                linkCost[code] = value;
                break;
            case CAPACITY:
                linkCapacity[code] = value;
                break;
            case COLOURS:
                linkColours[code] = value;
                break;
            default:
                linkUp[code] = value == 1;
                break;
        }
        settle();
        return countPlaced();
    }

    public int look(int code, int what) {
        if (!isGoodCode(code) || !isWithin(what, COST, LOAD)) {
            return BAD;
        }
        if (!linkThere[code]) {
            return NONE;
        }
        switch (what) {
            case COST:
                return linkCost[code];
            case CAPACITY:
                return linkCapacity[code];
            case COLOURS:
                return linkColours[code];
            case UP:
                return linkUp[code] ? 1 : 0;
            default:
                return loadOf(code);
        }
    }

    public int room(int code, int priority) {
        if (!isGoodCode(code) || !isWithin(priority, 0, PRIORITIES - 1)) {
            return BAD;
        }
        if (!linkThere[code]) {
            return NONE;
        }
        return roomWithout(code, priority, NO_TUNNEL) + ROOM_SHIFT;
    }

    public int want(int t, int ends, int bandwidth, int terms) {
        if (!isTunnelNumber(t) || !isGoodOffer(ends, bandwidth, terms)) {
            return BAD;
        }
        if (tunnelState[t] != NOT_THERE) {
            return EXISTS;
        }
        tunnelEnds[t] = ends;
        tunnelBandwidth[t] = bandwidth;
        tunnelPriority[t] = terms / COLOUR_SETS;
        tunnelAvoided[t] = terms % COLOUR_SETS;
        makeIdle(t);
        settle();
        return tunnelState[t] == PLACED ? 1 : 0;
    }

    public int release(int t) {
        if (!isTunnelNumber(t)) {
            return BAD;
        }
        if (tunnelState[t] == NOT_THERE) {
            return NONE;
        }
        makeIdle(t);
        tunnelState[t] = NOT_THERE;
        settle();
        return countPlaced();
    }

    public int improve(int t) {
        if (!isTunnelNumber(t)) {
            return BAD;
        }
        if (tunnelState[t] == NOT_THERE) {
            return NONE;
        }
        if (tunnelState[t] != PLACED || !hasFitPath(t)) {
            return 0;
        }
        traceBestPath(t);
        // After a settling the path of a placed tunnel is fit for it,
        // so a best path that is not the same one is better.
        if (isOnFoundPath(t)) {
            return 0;
        }
        placeOnFoundPath(t);
        settle();
        return 1;
    }

    public int state(int t) {
        if (!isTunnelNumber(t)) {
            return BAD;
        }
        return tunnelState[t];
    }

    public int node(int t, int i) {
        if (!isTunnelNumber(t)) {
            return BAD;
        }
        if (tunnelState[t] != PLACED || !isWithin(i, 0, pathLength[t] - 1)) {
            return NONE;
        }
        return pathNode[NODES * t + i];
    }

    public int cost(int t) {
        if (!isTunnelNumber(t)) {
            return BAD;
        }
        if (tunnelState[t] != PLACED) {
            return NONE;
        }
        int sum = 0;
        for (int code = 0; code < CODES; code++) {
            if (isOver(t, code)) {
                sum += linkCost[code];
            }
        }
        return sum;
    }

    public int over(int code) {
        if (!isGoodCode(code)) {
            return BAD;
        }
        if (!linkThere[code]) {
            return NONE;
        }
        int count = 0;
        for (int t = 0; t < TUNNELS; t++) {
            if (isOver(t, code)) {
                count++;
            }
        }
        return count;
    }

    public int quote(int ends, int bandwidth, int terms) {
        if (!isGoodOffer(ends, bandwidth, terms)) {
            return BAD;
        }
        openRooms(terms / COLOUR_SETS, terms % COLOUR_SETS, NO_TUNNEL);
        rankNodes(ends % NODES, bandwidth);
        int rank = rankToGoal[ends / NODES];
        return rank < FAR ? rank / COST_UNIT : NONE;
    }

    public int widest(int ends, int terms) {
        if (!isGoodEnds(ends) || !isGoodTerms(terms)) {
            return BAD;
        }
        openRooms(terms / COLOUR_SETS, terms % COLOUR_SETS, NO_TUNNEL);
        for (int bandwidth = MOST_BANDWIDTH; bandwidth >= 1; bandwidth--) {
            rankNodes(ends % NODES, bandwidth);
            if (rankToGoal[ends / NODES] < FAR) {
                return bandwidth;
            }
        }
        return 0;
    }

    public int flow(int ends, int terms) {
        if (!isGoodEnds(ends) || !isGoodTerms(terms)) {
            return BAD;
        }
        openRooms(terms / COLOUR_SETS, terms % COLOUR_SETS, NO_TUNNEL);
        // No more can flow than the links out of any set of nodes that has the first end
        // and not the second one let pass, and as much as the least of these can flow.
        int least = FAR;
        for (int set = 0; set < NODE_SETS; set++) {
            if (hasMember(set, ends / NODES) && !hasMember(set, ends % NODES)) {
                int cut = roomOutOf(set);
                least = cut < least ? cut : least;
            }
        }
        return least;
    }

    public int bridge(int code) {
        if (!isGoodCode(code)) {
            return BAD;
        }
        if (!linkThere[code]) {
            return NONE;
        }
        if (!linkUp[code]) {
            return 0;
        }
        int reached = reachedFrom(code / NODES, code);
        return hasMember(reached, code % NODES) ? 0 : 1;
    }

    public int groups() {
        int count = 0;
        for (int node = 0; node < NODES; node++) {
            int reached = reachedFrom(node, NO_LINK);
            int lesserNodes = (1 << node) - 1;
            // A group is counted once, at its least node.
            if ((reached & lesserNodes) == 0) {
                count++;
            }
        }
        return count;
    }

    private static boolean isWithin(int value, int least, int most) {
        return value >= least && value <= most;
    }

    private static boolean isGoodCode(int code) {
        return isWithin(code, 0, CODES - 1) && code / NODES < code % NODES;
    }

    private static boolean isGoodEnds(int ends) {
        return isWithin(ends, 0, CODES - 1) && ends / NODES != ends % NODES;
    }

    private static boolean isGoodTerms(int terms) {
        return isWithin(terms, 0, PRIORITIES * COLOUR_SETS - 1);
    }

    private static boolean isGoodOffer(int ends, int bandwidth, int terms) {
        return isGoodEnds(ends) && isWithin(bandwidth, 1, MOST_BANDWIDTH) && isGoodTerms(terms);
    }

    private static boolean isGoodValue(int what, int value) {
        switch (what) {
            case COST:
                return isWithin(value, 1, MOST_COST);
            case CAPACITY:
                return isWithin(value, 0, MOST_CAPACITY);
            case COLOURS:
                return isWithin(value, 0, COLOUR_SETS - 1);
            case UP:
                return isWithin(value, 0, 1);
            default:
                return false;
        }
    }

    private static boolean isTunnelNumber(int t) {
        return isWithin(t, 0, TUNNELS - 1);
    }

    private static boolean hasMember(int set, int member) {
        return ((set >> member) & 1) == 1;
    }

    private static int codeBetween(int a, int b) {
        return a < b ? NODES * a + b : NODES * b + a;
    }

    private boolean isOver(int t, int code) {
        return ((tunnelLinks[t] >> code) & 1L) == 1L;
    }

    private int countPlaced() {
        int count = 0;
        for (int t = 0; t < TUNNELS; t++) {
            if (tunnelState[t] == PLACED) {
                count++;
            }
        }
        return count;
    }

    private int loadOf(int code) {
        int load = 0;
        for (int t = 0; t < TUNNELS; t++) {
            if (isOver(t, code)) {
                load += tunnelBandwidth[t];
            }
        }
        return load;
    }

    private int roomWithout(int code, int priority, int except) {
        int left = linkCapacity[code];
        for (int t = 0; t < TUNNELS; t++) {
            // Not a call of isOver: calls go at most six deep.
            boolean passes = ((tunnelLinks[t] >> code) & 1L) == 1L;
            if (passes && t != except && tunnelPriority[t] <= priority) {
                left -= tunnelBandwidth[t];
            }
        }
        return left;
    }

    private boolean isUsable(int code, int avoided) {
        return linkThere[code] && linkUp[code] && (linkColours[code] & avoided) == 0;
    }

    private void makeIdle(int t) {
        tunnelState[t] = IDLE;
        tunnelLinks[t] = 0L;
        pathLength[t] = 0;
    }

    private void settle() {
        dropBroken();
        boolean again = true;
        for (int round = 0; again && round < MOST_ROUNDS; round++) {
            relieveLinks();
            again = placeFirstFit();
        }
    }

    private void dropBroken() {
        for (int t = 0; t < TUNNELS; t++) {
            for (int code = 0; code < CODES; code++) {
                if (isOver(t, code) && !isUsable(code, tunnelAvoided[t])) {
                    makeIdle(t);
                }
            }
        }
    }

    // Each step makes one tunnel idle, so there are no more steps than tunnels.
    private void relieveLinks() {
        for (int step = 0; step < TUNNELS; step++) {
            int code = firstOverloaded();
            if (code == NO_LINK) {
                return;
            }
            int victim = leastUrgentOver(code);
            if (victim == NO_TUNNEL) {
                return;
            }
            makeIdle(victim);
        }
    }

    private int firstOverloaded() {
        for (int code = 0; code < CODES; code++) {
            if (linkThere[code] && loadOf(code) > linkCapacity[code]) {
                return code;
            }
        }
        return NO_LINK;
    }

    private int leastUrgentOver(int code) {
        int found = NO_TUNNEL;
        int foundPriority = 0;
        for (int t = 0; t < TUNNELS; t++) {
            if (isOver(t, code) && tunnelPriority[t] >= foundPriority) {
                found = t;
                foundPriority = tunnelPriority[t];
            }
        }
        return found;
    }

    private boolean placeFirstFit() {
        for (int priority = 0; priority < PRIORITIES; priority++) {
            for (int t = 0; t < TUNNELS; t++) {
                if (tunnelState[t] == IDLE && tunnelPriority[t] == priority && hasFitPath(t)) {
                    traceBestPath(t);
                    placeOnFoundPath(t);
                    return true;
                }
            }
        }
        return false;
    }

    private boolean hasFitPath(int t) {
        openRooms(tunnelPriority[t], tunnelAvoided[t], t);
        rankNodes(tunnelEnds[t] % NODES, tunnelBandwidth[t]);
        return rankToGoal[tunnelEnds[t] / NODES] < FAR;
    }

    // Every bandwidth is 1 or more, so a link with an open room of 0 is closed to all.
    private void openRooms(int priority, int avoided, int except) {
        for (int code = 0; code < CODES; code++) {
            openRoom[code] = 0;
            if (isUsable(code, avoided)) {
                int left = roomWithout(code, priority, except);
                openRoom[code] = left > 0 ? left : 0;
            }
        }
    }

    private void rankNodes(int goal, int bandwidth) {
        for (int node = 0; node < NODES; node++) {
            rankToGoal[node] = node == goal ? 0 : FAR;
        }
        // A best path has at most one link less than there are nodes, and a round adds a link.
        for (int round = 1; round < NODES; round++) {
            for (int code = 0; code < CODES; code++) {
                if (openRoom[code] >= bandwidth) {
                    lowerRanks(code);
                }
            }
        }
    }

    private void lowerRanks(int code) {
        int a = code / NODES;
        int b = code % NODES;
        int step = linkCost[code] * COST_UNIT + 1;
        if (rankToGoal[b] + step < rankToGoal[a]) {
            rankToGoal[a] = rankToGoal[b] + step;
        }
        if (rankToGoal[a] + step < rankToGoal[b]) {
            rankToGoal[b] = rankToGoal[a] + step;
        }
    }

    // Follows the ranks that hasFitPath left behind.
    private void traceBestPath(int t) {
        int at = tunnelEnds[t] / NODES;
        int goal = tunnelEnds[t] % NODES;
        foundNode[0] = at;
        foundLength = 1;
        for (int i = 1; i < NODES && at != goal; i++) {
            at = nextOnBest(at, tunnelBandwidth[t]);
            foundNode[i] = at;
            foundLength = i + 1;
        }
    }

    // All best paths have the same number of links, so the least next node decides between them.
    private int nextOnBest(int at, int bandwidth) {
        for (int next = 0; next < NODES; next++) {
            int code = codeBetween(at, next);
            int step = linkCost[code] * COST_UNIT + 1;
            if (openRoom[code] >= bandwidth && rankToGoal[next] + step == rankToGoal[at]) {
                return next;
            }
        }
        return at;
    }

    private boolean isOnFoundPath(int t) {
        if (pathLength[t] != foundLength) {
            return false;
        }
        for (int i = 0; i < NODES && i < foundLength; i++) {
            if (pathNode[NODES * t + i] != foundNode[i]) {
                return false;
            }
        }
        return true;
    }

    private void placeOnFoundPath(int t) {
        makeIdle(t);
        for (int i = 0; i < NODES && i < foundLength; i++) {
            pathNode[NODES * t + i] = foundNode[i];
            if (i > 0) {
                int code = codeBetween(foundNode[i - 1], foundNode[i]);
                tunnelLinks[t] |= 1L << code;
            }
        }
        pathLength[t] = foundLength;
        tunnelState[t] = PLACED;
    }

    private int roomOutOf(int set) {
        int sum = 0;
        for (int code = 0; code < CODES; code++) {
            if (hasMember(set, code / NODES) != hasMember(set, code % NODES)) {
                sum += openRoom[code];
            }
        }
        return sum;
    }

    private int reachedFrom(int start, int skipped) {
        int reached = 1 << start;
        for (int round = 1; round < NODES; round++) {
            for (int code = 0; code < CODES; code++) {
                int both = (1 << (code / NODES)) | (1 << (code % NODES));
                if (code != skipped && linkThere[code] && linkUp[code] && (reached & both) != 0) {
                    reached |= both;
                }
            }
        }
        return reached;
    }
}
