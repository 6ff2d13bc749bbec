import java.util.ArrayList;
import java.util.Arrays;
import java.util.List;

/**
 * "In every method the tests are made in the order named", "A refused call (an answer below 0) changes nothing" and
 * "Questions change nothing": every method, with all its arguments at and past their edges, in three networks.
 */
public final class RefusalTest {
    private static final int MIN = Integer.MIN_VALUE;
    private static final int MAX = Integer.MAX_VALUE;
    private static final int[] CODES = {MIN, MIN + 1, -35, -1, 0, 1, 2, 3, 6, 7, 29, 34, 35, 36, 257, 65537, MAX};
    private static final int[] COSTS = {MIN, -1, 0, 1, 20, 21, 257, MAX};
    private static final int[] CAPACITIES = {MIN, -1, 0, 100, 101, 256, MAX};
    private static final int[] WHATS = {MIN, -1, 0, 1, 2, 3, 4, 5, 256, MAX};
    private static final int[] VALUES = {MIN, -1, 0, 1, 2, 7, 8, 20, 21, 100, 101, MAX};
    private static final int[] PRIORITIES = {MIN, -1, 0, 3, 4, MAX};
    private static final int[] TUNNELS = {MIN, -1, 0, 1, 2, 7, 8, 256, MAX};
    private static final int[] ENDS = {MIN, -1, 0, 1, 6, 7, 34, 35, 36, 257, MAX};
    private static final int[] BANDWIDTHS = {MIN, -1, 0, 1, 100, 101, MAX};
    private static final int[] TERMS = {MIN, -1, 0, 15, 31, 32, MAX};
    private static final int[] PLACES = {MIN, -6, -1, 0, 1, 2, 5, 6, 7, 42, MAX};
    private static final int[] GOOD_CODES = {1, 2, 3, 4, 5, 8, 9, 10, 11, 15, 16, 17, 22, 23, 29};
    private static final String[] EMPTY = {};
    // In this one: a link that is down, one that is coloured, one of capacity 0, some just filled;
    // tunnels that are placed, idle, and not there.
    private static final String[] MIXED = {
        "link 1 2 9", "link 2 3 9", "link 8 1 9", "link 29 1 50", "link 23 4 0", "link 15 5 7", "change 29 3 0",
        "change 2 2 5", "want 0 2 9 18", "want 1 1 4 8", "want 3 34 3 0", "want 4 15 7 26", "want 5 9 2 0",
        "want 7 29 9 31"};
    // And in this one all links and all tunnels.
    private static final String[] FULL = {
        "link 1 1 10", "link 2 2 20", "link 3 3 30", "link 4 4 40", "link 5 5 50", "link 8 6 60", "link 9 7 70",
        "link 10 8 80", "link 11 9 90", "link 15 10 100", "link 16 11 0", "link 17 12 1", "link 22 13 2",
        "link 23 14 3", "link 29 20 100", "want 0 1 10 0", "want 1 6 10 9", "want 2 5 60 18", "want 3 30 5 27",
        "want 4 11 90 1", "want 5 31 90 10", "want 6 22 99 19", "want 7 29 100 31"};
    // After these calls an idle tunnel shows what it is, by the path it takes and the load it makes.
    private static final String[] WIDE = {
        "link 3 5 100", "link 16 2 100", "change 29 3 1", "change 29 2 2", "change 29 1 100", "change 1 1 100",
        "change 1 2 3", "change 2 1 100", "change 8 1 100", "change 15 1 100", "change 23 1 100", "improve 0",
        "improve 1", "improve 7"};
    private static int wrong = 0;
    private static int refused = 0;
    private static int asked = 0;

    public static void main(String[] args) {
        for (String[] network : List.of(EMPTY, MIXED, FULL)) {
            everyMethod(network);
        }
        System.out.println(wrong == 0
            ? "all is as due: " + refused + " refused calls and " + asked + " questions changed nothing"
            : wrong + " answers are not as due");
        if (wrong != 0) {
            System.exit(1);
        }
    }

    private static void everyMethod(String[] network) {
        int[] before = views(network, null);
        all(network, before, "link", CODES, COSTS, CAPACITIES);
        all(network, before, "unlink", CODES);
        all(network, before, "change", CODES, WHATS, VALUES);
        all(network, before, "look", CODES, WHATS);
        all(network, before, "room", CODES, PRIORITIES);
        all(network, before, "want", TUNNELS, ENDS, BANDWIDTHS, TERMS);
        all(network, before, "release", TUNNELS);
        all(network, before, "improve", TUNNELS);
        all(network, before, "state", TUNNELS);
        all(network, before, "node", TUNNELS, PLACES);
        all(network, before, "cost", TUNNELS);
        all(network, before, "over", CODES);
        all(network, before, "quote", ENDS, BANDWIDTHS, TERMS);
        all(network, before, "widest", ENDS, TERMS);
        all(network, before, "flow", ENDS, TERMS);
        all(network, before, "bridge", CODES);
        all(network, before, "groups");
    }

    /** The method with every choice of arguments, each on an object of its own. */
    private static void all(String[] network, int[] before, String method, int[]... choices) {
        int count = 1;
        for (int[] choice : choices) {
            count *= choice.length;
        }
        for (int number = 0; number < count; number++) {
            int[] arguments = new int[choices.length];
            int rest = number;
            for (int i = 0; i < choices.length; i++) {
                arguments[i] = choices[i][rest % choices[i].length];
                rest /= choices[i].length;
            }
            one(network, before, new Sequence.Call(method, arguments));
        }
    }

    private static void one(String[] network, int[] before, Sequence.Call call) {
        int got = made(new Program(), network).call(call.method(), call.args());
        int want = made(new Model(), network).call(call.method(), call.args());
        if (got != want) {
            say(network, call + " answered " + got + ", due is " + want);
        }
        boolean isQuestion = Arrays.asList(Network.QUESTIONS).contains(call.method());
        refused += got < 0 ? 1 : 0;
        asked += isQuestion ? 1 : 0;
        if ((got < 0 || isQuestion) && !Arrays.equals(before, views(network, call))) {
            say(network, call + " answered " + got + " and changed something");
        }
    }

    private static void say(String[] network, String what) {
        wrong++;
        if (wrong <= 50) {
            System.out.println("after " + network.length + " calls: " + what);
        }
    }

    private static Network made(Network x, String[] lines) {
        for (String line : lines) {
            String[] words = line.split(" ");
            int[] arguments = new int[words.length - 1];
            for (int i = 0; i < arguments.length; i++) {
                arguments[i] = Integer.parseInt(words[i + 1]);
            }
            x.call(words[0], arguments);
        }
        return x;
    }

    /** All that questions tell after the call, and, on a second object, all that they tell after it and WIDE. */
    private static int[] views(String[] network, Sequence.Call call) {
        List<Integer> answers = new ArrayList<>();
        for (int pass = 0; pass < 2; pass++) {
            Network x = made(new Program(), network);
            if (call != null) {
                x.call(call.method(), call.args());
            }
            if (pass == 1) {
                made(x, WIDE);
            }
            view(x, answers);
        }
        return answers.stream().mapToInt(Integer::intValue).toArray();
    }

    private static void view(Network x, List<Integer> answers) {
        answers.add(x.groups());
        for (int t = 0; t < 8; t++) {
            answers.add(x.state(t));
            answers.add(x.cost(t));
            for (int i = 0; i < 6; i++) {
                answers.add(x.node(t, i));
            }
        }
        for (int code : GOOD_CODES) {
            for (int what = 0; what <= 4; what++) {
                answers.add(x.look(code, what));
            }
            for (int priority = 0; priority < 4; priority++) {
                answers.add(x.room(code, priority));
            }
            answers.add(x.over(code));
            answers.add(x.bridge(code));
        }
        // Last, since these do the most: if one of them changed something, all views after it would be alike.
        for (int code : GOOD_CODES) {
            answers.add(x.quote(code, 1, 0));
            answers.add(x.flow(code, 31));
        }
    }
}
