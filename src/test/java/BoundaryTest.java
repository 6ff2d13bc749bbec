import java.util.ArrayList;
import java.util.List;

/** Promises 1 to 18 in their order: each sentence that names a boundary or a refusal. */
public final class BoundaryTest {
    private static final String PLACED_THEN = "the answer is how many tunnels are placed then";

    public static void main(String[] args) {
        newObject();
        link();
        unlink();
        change();
        changeValues();
        look();
        room();
        want();
        release();
        improve();
        improveBetter();
        state();
        node();
        cost();
        over();
        quote();
        widest();
        flow();
        flowOfRooms();
        bridge();
        groups();
        leastAndGreatestInt();
        Script.finish();
    }

    private static void newObject() {
        Script.sentence("TunnelNetwork(): As said above.",
            "groups = 6", "state 0 = 0", "state 7 = 0", "over 0-1 = NONE", "over 4-5 = NONE", "widest 5-0 0 = 0");
    }

    private static void link() {
        Script.sentence("Adds a link that is up and has no colours.",
            "link 0-1 3 4 = 0", "look 0-1 3 = 1", "look 0-1 2 = 0", "change 0-1 2 7 = 0", "change 0-1 3 0 = 0",
            "unlink 0-1 = 0", "link 0-1 5 6 = 0", "look 0-1 0 = 5", "look 0-1 1 = 6", "look 0-1 2 = 0",
            "look 0-1 3 = 1", "look 0-1 4 = 0");
        Script.sentence("code is not good, cost not 1 .. 20, or capacity not 0 .. 100: BAD",
            "link -1 1 0 = BAD", "link 0-0 1 0 = BAD", "link 1-0 1 0 = BAD", "link 5-4 1 0 = BAD", "link 5-5 1 0 = BAD",
            "link 36 1 0 = BAD", "link 0-1 0 0 = BAD", "link 0-1 21 0 = BAD", "link 0-1 1 -1 = BAD",
            "link 0-1 1 101 = BAD", "groups = 6", "link 0-1 1 0 = 0", "link 4-5 20 100 = 0", "groups = 4");
        Script.sentence("it is there: EXISTS",
            "link 0-1 1 0 = 0", "link 0-1 1 0 = EXISTS", "link 0-1 20 100 = EXISTS", "look 0-1 0 = 1", "look 0-1 1 = 0",
            "change 0-1 3 0 = 0", "link 0-1 1 0 = EXISTS", "look 0-1 3 = 0", "unlink 0-1 = 0", "link 0-1 2 3 = 0");
        Script.sentence("In every method the tests are made in the order named [link: BAD, then EXISTS]",
            "link 0-1 1 0 = 0", "link 0-1 0 0 = BAD", "link 0-1 21 0 = BAD", "link 0-1 1 -1 = BAD",
            "link 0-1 1 101 = BAD", "link 1-0 1 0 = BAD", "link 0-1 1 0 = EXISTS");
        Script.sentence(PLACED_THEN,
            "want 0 0-1 1 p0 = 0", "want 1 1-0 1 p1 = 0", "want 2 0-1 1 p2 = 0", "want 3 1-0 1 p3 = 0",
            "want 4 0-1 1 p0 = 0", "want 5 1-0 1 p1 = 0", "want 6 0-1 1 p2 = 0", "want 7 1-0 1 p3 = 0",
            "link 4-5 1 9 = 0", "link 0-2 1 7 = 0", "link 1-2 1 7 = 7", "state 7 = 1", "link 0-1 1 1 = 8");
    }

    private static void unlink() {
        Script.sentence("Takes a link away.",
            "link 0-1 1 1 = 0", "link 0-2 1 1 = 0", "unlink 0-1 = 0", "look 0-1 0 = NONE", "look 0-2 0 = 1",
            "groups = 5", "unlink 0-2 = 0", "groups = 6");
        Script.sentence("code is not good: BAD; it is not there: NONE",
            "link 0-1 1 1 = 0", "unlink -1 = BAD", "unlink 0-0 = BAD", "unlink 1-0 = BAD", "unlink 5-5 = BAD",
            "unlink 36 = BAD", "unlink 37 = BAD", "unlink 0-2 = NONE", "unlink 4-5 = NONE", "look 0-1 0 = 1",
            "unlink 0-1 = 0", "unlink 0-1 = NONE");
        Script.sentence(PLACED_THEN,
            "link 0-1 1 1 = 0", "link 0-2 1 7 = 0", "link 1-2 1 7 = 0", "link 3-4 1 1 = 0",
            "want 0 0-1 1 p0 = 1", "want 1 1-0 1 p1 = 1", "want 2 0-1 1 p2 = 1", "want 3 1-0 1 p3 = 1",
            "want 4 0-1 1 p0 = 1", "want 5 1-0 1 p1 = 1", "want 6 0-1 1 p2 = 1", "want 7 1-0 1 p3 = 1",
            "unlink 3-4 = 8", "unlink 0-1 = 7", "unlink 0-2 = 0", "unlink 1-2 = 0");
        // What a tunnel gives up elsewhere is there for others.
        Script.sentence("Else there is a settling",
            "link 0-1 1 5 = 0", "link 1-2 1 5 = 0", "want 0 0-2 5 p0 = 1", "want 1 0-1 5 p3 = 0", "unlink 1-2 = 1",
            "state 0 = 1", "state 1 = 2");
    }

    private static void change() {
        Script.sentence("code is not good, what is not 0 .. 3, or value is not as said: BAD",
            "link 0-1 5 5 = 0", "change -1 0 1 = BAD", "change 0-0 0 1 = BAD", "change 1-0 0 1 = BAD",
            "change 5-5 0 1 = BAD", "change 36 0 1 = BAD", "change 0-1 -1 1 = BAD", "change 0-1 4 1 = BAD",
            "change 0-1 4 0 = BAD", "change 0-1 5 1 = BAD", "look 0-1 0 = 5", "look 0-1 1 = 5", "look 0-1 2 = 0",
            "look 0-1 3 = 1", "look 0-1 4 = 0");
        Script.sentence("the link is not there: NONE",
            "change 0-1 0 1 = NONE", "change 0-1 1 0 = NONE", "change 0-1 2 0 = NONE", "change 0-1 3 0 = NONE",
            "change 4-5 0 20 = NONE", "change 4-5 1 100 = NONE", "change 4-5 2 7 = NONE", "change 4-5 3 1 = NONE",
            "link 0-1 1 1 = 0", "change 0-1 0 2 = 0", "unlink 0-1 = 0", "change 0-1 0 3 = NONE", "look 0-1 0 = NONE");
        Script.sentence("In every method the tests are made in the order named [change: BAD, then NONE]",
            "change 0-1 -1 1 = BAD", "change 0-1 4 1 = BAD", "change 0-1 0 0 = BAD", "change 0-1 0 21 = BAD",
            "change 0-1 1 -1 = BAD", "change 0-1 1 101 = BAD", "change 0-1 2 -1 = BAD", "change 0-1 2 8 = BAD",
            "change 0-1 3 -1 = BAD", "change 0-1 3 2 = BAD", "change 0-1 0 1 = NONE");
        Script.sentence(PLACED_THEN,
            "link 0-1 1 8 = 0", "want 0 0-1 1 p0 = 1", "want 1 1-0 1 p1 = 1", "want 2 0-1 1 p2 = 1",
            "want 3 1-0 1 p3 = 1", "want 4 0-1 1 p0 = 1", "want 5 1-0 1 p1 = 1", "want 6 0-1 1 p2 = 1",
            "want 7 1-0 1 p3 = 1", "change 0-1 0 20 = 8", "change 0-1 1 8 = 8", "change 0-1 1 7 = 7",
            "change 0-1 2 7 = 7", "change 0-1 1 1 = 1", "change 0-1 1 0 = 0", "change 0-1 1 100 = 8",
            "change 0-1 3 1 = 8", "change 0-1 3 0 = 0", "change 0-1 3 0 = 0", "change 0-1 3 1 = 8");
    }

    private static void changeValues() {
        // Some of the bad values are good ones for another what.
        Script.sentence("what 0 its cost (1 .. 20)",
            "link 0-1 5 5 = 0", "change 0-1 0 0 = BAD", "change 0-1 0 21 = BAD", "change 0-1 0 100 = BAD",
            "look 0-1 0 = 5", "change 0-1 0 1 = 0", "look 0-1 0 = 1", "change 0-1 0 20 = 0", "look 0-1 0 = 20",
            "look 0-1 1 = 5", "look 0-1 2 = 0", "look 0-1 3 = 1");
        Script.sentence("1 its capacity (0 .. 100)",
            "link 0-1 5 5 = 0", "change 0-1 1 -1 = BAD", "change 0-1 1 101 = BAD", "look 0-1 1 = 5",
            "change 0-1 1 0 = 0", "look 0-1 1 = 0", "change 0-1 1 100 = 0", "look 0-1 1 = 100",
            "look 0-1 0 = 5", "look 0-1 2 = 0", "look 0-1 3 = 1");
        Script.sentence("2 its colours (0 .. 7)",
            "link 0-1 5 5 = 0", "change 0-1 2 -1 = BAD", "change 0-1 2 8 = BAD", "change 0-1 2 20 = BAD",
            "look 0-1 2 = 0", "change 0-1 2 7 = 0", "look 0-1 2 = 7", "change 0-1 2 0 = 0", "look 0-1 2 = 0",
            "change 0-1 2 4 = 0", "look 0-1 2 = 4", "look 0-1 0 = 5", "look 0-1 1 = 5", "look 0-1 3 = 1");
        Script.sentence("3 whether it is up (1) or down (0)",
            "link 0-1 5 5 = 0", "change 0-1 3 -1 = BAD", "change 0-1 3 2 = BAD", "change 0-1 3 7 = BAD",
            "look 0-1 3 = 1", "change 0-1 3 1 = 0", "look 0-1 3 = 1", "change 0-1 3 0 = 0", "look 0-1 3 = 0",
            "look 0-1 0 = 5", "look 0-1 1 = 5", "look 0-1 2 = 0");
    }

    private static void look() {
        Script.sentence("The cost (what 0), capacity (1), colours (2), or whether it is up (3: 1 or 0), or the load (4)",
            "link 0-1 20 100 = 0", "want 0 0-1 100 p3 = 1", "look 0-1 0 = 20", "look 0-1 1 = 100", "look 0-1 2 = 0",
            "look 0-1 3 = 1", "look 0-1 4 = 100", "change 0-1 2 7 = 1", "look 0-1 2 = 7", "change 0-1 3 0 = 0",
            "look 0-1 3 = 0", "look 0-1 4 = 0", "change 0-1 0 1 = 0", "change 0-1 1 0 = 0", "look 0-1 0 = 1",
            "look 0-1 1 = 0");
        Script.sentence("code is not good, or what is not 0 .. 4: BAD; the link is not there: NONE",
            "link 0-1 1 1 = 0", "look -1 0 = BAD", "look 0-0 0 = BAD", "look 1-0 0 = BAD", "look 5-5 0 = BAD",
            "look 36 0 = BAD", "look 0-1 -1 = BAD", "look 0-1 5 = BAD", "look 0-2 -1 = BAD", "look 0-2 5 = BAD",
            "look 0-2 0 = NONE", "look 0-2 4 = NONE", "look 4-5 4 = NONE", "unlink 0-1 = 0", "look 0-1 4 = NONE");
    }

    private static void room() {
        Script.sentence("The room of a link for a priority, plus 1000.",
            "link 0-1 1 0 = 0", "room 0-1 0 = 1000", "room 0-1 3 = 1000", "change 0-1 1 100 = 0", "room 0-1 0 = 1100",
            "room 0-1 3 = 1100", "want 0 0-1 100 p2 = 1", "room 0-1 1 = 1100", "room 0-1 2 = 1000", "room 0-1 3 = 1000",
            "change 0-1 3 0 = 0", "room 0-1 3 = 1100");
        Script.sentence("code is not good, or priority not 0 .. 3: BAD; the link is not there: NONE",
            "link 0-1 1 1 = 0", "room -1 0 = BAD", "room 0-0 0 = BAD", "room 1-0 0 = BAD", "room 5-5 0 = BAD",
            "room 36 0 = BAD", "room 0-1 -1 = BAD", "room 0-1 4 = BAD", "room 0-2 -1 = BAD", "room 0-2 4 = BAD",
            "room 0-2 0 = NONE", "room 0-2 3 = NONE", "unlink 0-1 = 0", "room 0-1 0 = NONE");
    }

    private static void want() {
        Script.sentence("t is not 0 .. 7, ends are not good, bandwidth is not 1 .. 100, or terms are not good: BAD",
            "link 0-1 1 100 = 0", "want -1 0-1 1 0 = BAD", "want 8 0-1 1 0 = BAD", "want 0 -1 1 0 = BAD",
            "want 0 0-0 1 0 = BAD", "want 0 5-5 1 0 = BAD", "want 0 36 1 0 = BAD", "want 0 0-1 0 0 = BAD",
            "want 0 0-1 101 0 = BAD", "want 0 0-1 1 -1 = BAD", "want 0 0-1 1 32 = BAD", "state 0 = 0", "over 0-1 = 0",
            "want 0 0-1 1 0 = 1", "want 7 1-0 99 31 = 1");
        Script.sentence("there is a tunnel t: EXISTS",
            "want 3 0-1 1 p2 = 0", "want 3 0-1 1 p2 = EXISTS", "want 3 4-5 9 p0a7 = EXISTS", "link 0-1 1 5 = 1",
            "want 3 0-1 1 p2 = EXISTS", "look 0-1 4 = 1", "room 0-1 1 = 1005", "release 3 = 0", "want 3 0-1 1 p2 = 1");
        Script.sentence("In every method the tests are made in the order named [want: BAD, then EXISTS]",
            "want 3 0-1 1 0 = 0", "want 3 0-0 1 0 = BAD", "want 3 36 1 0 = BAD", "want 3 0-1 0 0 = BAD",
            "want 3 0-1 101 0 = BAD", "want 3 0-1 1 -1 = BAD", "want 3 0-1 1 32 = BAD", "want 3 0-1 1 0 = EXISTS");
        // The answer is of this tunnel, not of how many there are.
        Script.sentence("the answer is 1 if the tunnel is placed then, else 0",
            "link 0-1 1 10 = 0", "want 0 0-1 4 p1 = 1", "want 1 0-1 4 p1 = 1", "want 2 0-1 3 p1 = 0",
            "want 3 0-1 2 p1 = 1", "want 4 0-1 1 p3 = 0", "want 5 0-1 10 p0 = 1", "over 0-1 = 1",
            "want 6 0-1 1 p0 = 0", "want 7 4-5 1 p0 = 0");
    }

    private static void release() {
        Script.sentence("Takes a tunnel away.",
            "link 0-1 1 10 = 0", "want 0 0-1 4 p1 = 1", "release 0 = 0", "state 0 = 0", "look 0-1 4 = 0",
            "over 0-1 = 0", "room 0-1 3 = 1010", "cost 0 = NONE", "path 0 = NONE", "improve 0 = NONE");
        Script.sentence("t is not 0 .. 7: BAD; there is none: NONE",
            "release -1 = BAD", "release 8 = BAD", "release 0 = NONE", "release 7 = NONE", "want 7 0-1 1 0 = 0",
            "release 6 = NONE", "release 7 = 0", "release 7 = NONE");
        Script.sentence(PLACED_THEN,
            "link 0-1 1 8 = 0", "want 0 0-1 1 p0 = 1", "want 1 1-0 1 p1 = 1", "want 2 0-1 1 p2 = 1",
            "want 3 1-0 1 p3 = 1", "want 4 0-1 1 p0 = 1", "want 5 1-0 1 p1 = 1", "want 6 0-1 1 p2 = 1",
            "want 7 1-0 2 p3 = 0", "release 7 = 7", "release 0 = 6", "release 6 = 5", "release 1 = 4", "release 5 = 3",
            "release 2 = 2", "release 4 = 1", "release 3 = 0");
        Script.sentence("Else there is a settling",
            "link 0-1 1 8 = 0", "want 0 0-1 8 p0 = 1", "want 1 0-1 1 p3 = 0", "want 2 0-1 8 p3 = 0",
            "want 3 0-1 7 p3 = 0", "release 0 = 2", "state 1 = 2", "state 2 = 1", "state 3 = 2", "release 3 = 1",
            "release 1 = 1", "state 2 = 2");
    }

    private static void improve() {
        Script.sentence("t is not 0 .. 7: BAD; there is none: NONE [improve]",
            "improve -1 = BAD", "improve 8 = BAD", "improve 0 = NONE", "improve 7 = NONE", "want 7 0-1 1 0 = 0",
            "improve 6 = NONE", "improve 7 = 0", "release 7 = 0", "improve 7 = NONE");
        Script.sentence("If a tunnel is placed [..] Else answers 1 if it was moved so, else 0.",
            "want 0 0-1 5 p0 = 0", "improve 0 = 0", "link 0-1 1 4 = 0", "improve 0 = 0", "state 0 = 1",
            "change 0-1 1 5 = 1", "improve 0 = 0", "state 0 = 2", "path 0 = 0-1");
        // 0 leaves 0-1 to the waiting 2, and drives 1 from the way round; 1 then finds no way.
        Script.sentence("it is placed on that one, and there is a settling",
            "link 0-1 9 8 = 0", "want 0 0-1 8 p1 = 1", "link 0-2 1 8 = 1", "want 1 0-2 8 p2 = 1",
            "want 2 1-0 8 p3 = 0", "link 1-2 1 8 = 2", "path 0 = 0-1", "improve 0 = 1", "path 0 = 0-2-1",
            "state 1 = 1", "path 2 = 1-0", "improve 0 = 0");
    }

    private static void improveBetter() {
        // For a path that is as good there is none: two paths differ at some place.
        Script.sentence("the best path that is fit for it is better than the one on which it is",
            "link 0-1 3 9 = 0", "want 0 0-1 1 0 = 1", "link 0-2 2 9 = 1", "link 1-2 2 9 = 1", "improve 0 = 0",
            "change 1-2 0 1 = 1", "improve 0 = 0", "change 0-2 0 1 = 1", "improve 0 = 1", "path 0 = 0-2-1",
            "change 0-1 0 2 = 1", "improve 0 = 1", "path 0 = 0-1");
        Script.sentence("the best path that is fit for it is better than the one on which it is",
            "link 0-3 1 9 = 0", "link 1-3 1 9 = 0", "want 0 0-1 5 p1 = 1", "link 0-2 1 4 = 1", "link 1-2 1 9 = 1",
            "improve 0 = 0", "change 0-2 1 5 = 1", "want 1 0-2 1 p1 = 1", "improve 0 = 0", "release 1 = 1",
            "change 1-2 3 0 = 1", "improve 0 = 0", "change 1-2 3 1 = 1", "improve 0 = 1", "path 0 = 0-2-1",
            "link 0-4 1 9 = 1", "link 1-4 1 9 = 1", "improve 0 = 0");
        Script.sentence("the best path that is fit for it is better than the one on which it is",
            "link 0-3 1 9 = 0", "link 1-3 1 9 = 0", "want 0 0-1 5 p1a2 = 1", "link 0-2 1 9 = 1", "link 1-2 1 9 = 1",
            "change 0-2 2 6 = 1", "improve 0 = 0", "change 0-2 2 5 = 1", "improve 0 = 1", "path 0 = 0-2-1");
    }

    private static void state() {
        Script.sentence("0 if there is no tunnel t, 1 if it is idle, 2 if it is placed. t is not 0 .. 7: BAD.",
            "state -1 = BAD", "state 8 = BAD", "state 0 = 0", "state 7 = 0", "want 7 0-1 1 0 = 0", "state 7 = 1",
            "state 6 = 0", "link 0-1 1 1 = 1", "state 7 = 2", "want 0 0-1 1 0 = 0", "state 0 = 1",
            "change 0-1 1 0 = 0", "state 7 = 1", "release 7 = 0", "state 7 = 0", "release 0 = 0", "state 0 = 0");
    }

    private static void node() {
        Script.sentence("t is not 0 .. 7: BAD; it is not placed (or not there), or its path has no such node: NONE",
            "node -1 0 = BAD", "node 8 0 = BAD", "node -1 -1 = BAD", "node 8 6 = BAD", "node 0 0 = NONE",
            "node 0 -1 = NONE", "want 0 5-0 1 0 = 0", "node 0 0 = NONE", "want 1 0-5 1 0 = 0", "want 7 1-2 1 0 = 0",
            "link 0-1 1 9 = 0", "link 1-2 1 9 = 1", "link 2-3 1 9 = 1", "link 3-4 1 9 = 1", "link 4-5 1 9 = 3",
            "node 0 0 = 5", "node 0 1 = 4", "node 0 2 = 3", "node 0 3 = 2", "node 0 4 = 1", "node 0 5 = 0",
            "node 0 6 = NONE", "node 0 -1 = NONE", "node 0 7 = NONE", "node 1 0 = 0", "node 1 5 = 5", "node 1 -1 = NONE",
            "node 1 -6 = NONE", "node 1 6 = NONE", "node 7 0 = 1", "node 7 1 = 2", "node 7 2 = NONE", "node 7 5 = NONE",
            // A shorter path leaves no nodes of the longer one behind.
            "link 0-5 1 9 = 3", "improve 0 = 1", "node 0 0 = 5", "node 0 1 = 0", "node 0 2 = NONE", "node 0 5 = NONE",
            "release 0 = 2", "node 0 0 = NONE");
    }

    private static void cost() {
        Script.sentence("The sum of the costs of the links over which a tunnel is placed.",
            "link 0-1 1 9 = 0", "want 0 0-1 1 0 = 1", "cost 0 = 1", "change 0-1 0 20 = 1", "cost 0 = 20",
            "link 1-2 20 9 = 1", "link 2-3 20 9 = 1", "link 3-4 20 9 = 1", "link 4-5 20 9 = 1", "want 7 0-5 1 0 = 1",
            "cost 7 = 100", "change 2-3 0 1 = 2", "cost 7 = 81", "cost 0 = 20", "link 0-5 1 9 = 2", "cost 7 = 81",
            "improve 7 = 1", "cost 7 = 1");
        Script.sentence("t is not 0 .. 7: BAD; it is not placed (or not there): NONE",
            "cost -1 = BAD", "cost 8 = BAD", "cost 0 = NONE", "cost 7 = NONE", "want 7 0-1 1 0 = 0", "cost 7 = NONE",
            "link 0-1 2 1 = 1", "cost 7 = 2", "change 0-1 3 0 = 0", "cost 7 = NONE", "change 0-1 3 1 = 1",
            "release 7 = 0", "cost 7 = NONE");
    }

    private static void over() {
        Script.sentence("The number of tunnels placed over a link.",
            "link 4-5 1 8 = 0", "over 4-5 = 0", "want 0 4-5 1 p0 = 1", "over 4-5 = 1", "want 1 5-4 1 p1 = 1",
            "want 2 4-5 1 p2 = 1", "want 3 5-4 1 p3 = 1", "want 4 4-5 1 p0 = 1", "want 5 5-4 1 p1 = 1",
            "want 6 4-5 1 p2 = 1", "want 7 5-4 2 p3 = 0", "over 4-5 = 7", "release 7 = 7", "want 7 5-4 1 p3 = 1",
            "over 4-5 = 8", "link 0-1 1 8 = 8", "over 0-1 = 0", "change 4-5 1 0 = 0", "over 4-5 = 0");
        Script.sentence("code is not good: BAD; the link is not there: NONE [over]",
            "link 0-1 1 1 = 0", "want 0 0-1 1 0 = 1", "over -1 = BAD", "over 0-0 = BAD", "over 1-0 = BAD",
            "over 5-5 = BAD", "over 36 = BAD", "over 37 = BAD", "over 0-2 = NONE", "over 0-1 = 1", "unlink 0-1 = 0",
            "over 0-1 = NONE");
    }

    private static void quote() {
        Script.sentence("The sum of the costs of the best path that is fit for a new tunnel",
            "link 0-1 1 100 = 0", "quote 0-1 1 0 = 1", "quote 1-0 100 31 = 1", "link 1-2 20 50 = 0",
            "link 2-3 20 50 = 0", "link 3-4 20 50 = 0", "link 4-5 20 50 = 0", "change 0-1 0 20 = 0",
            "quote 0-5 50 0 = 100", "quote 5-0 51 0 = NONE", "link 0-5 19 49 = 0", "quote 0-5 49 0 = 19",
            "quote 0-5 50 0 = 100");
        Script.sentence("nothing is placed",
            "link 0-1 1 5 = 0", "want 0 0-1 5 p3 = 1", "quote 0-1 5 p0 = 1", "state 0 = 2", "state 1 = 0",
            "over 0-1 = 1", "look 0-1 4 = 5", "room 0-1 0 = 1005");
        Script.sentence("ends are not good, bandwidth is not 1 .. 100, or terms are not good: BAD; there is none: NONE",
            "quote -1 1 0 = BAD", "quote 0-0 1 0 = BAD", "quote 5-5 1 0 = BAD", "quote 36 1 0 = BAD",
            "quote 0-1 0 0 = BAD", "quote 0-1 101 0 = BAD", "quote 0-1 1 -1 = BAD", "quote 0-1 1 32 = BAD",
            "quote 0-1 1 0 = NONE", "quote 0-1 100 31 = NONE", "link 0-1 1 99 = 0", "quote 0-1 0 0 = BAD",
            "quote 0-1 101 0 = BAD", "quote 0-1 1 32 = BAD", "quote 0-1 100 0 = NONE", "quote 0-1 99 0 = 1",
            "quote 0-2 1 0 = NONE");
    }

    private static void widest() {
        Script.sentence("The greatest bandwidth (1 .. 100) for which there is a path that is fit for a new tunnel",
            "link 0-1 1 1 = 0", "widest 0-1 0 = 1", "change 0-1 1 100 = 0", "widest 1-0 31 = 100",
            "change 0-1 1 99 = 0", "widest 0-1 0 = 99", "link 0-2 20 100 = 0", "link 1-2 20 100 = 0",
            "widest 0-1 0 = 100", "want 0 0-2 1 p1 = 1", "widest 0-1 p1 = 99", "want 1 0-1 1 p1 = 1",
            "widest 0-1 p1 = 99", "widest 0-1 p0 = 100", "want 2 0-2 1 p2 = 1", "widest 0-1 p1 = 99",
            "widest 0-1 p2 = 98", "widest 0-1 p3 = 98");
        Script.sentence("0 if there is none",
            "widest 0-1 0 = 0", "link 0-1 1 0 = 0", "widest 0-1 0 = 0", "change 0-1 1 5 = 0", "want 0 0-1 5 p2 = 1",
            "widest 0-1 p1 = 5", "widest 0-1 p2 = 0", "widest 0-1 p3 = 0", "change 0-1 2 1 = 1", "widest 0-1 p1a1 = 0",
            "widest 0-1 p1a6 = 5", "change 0-1 3 0 = 0", "widest 0-1 p1 = 0", "widest 0-2 p1 = 0");
        Script.sentence("ends or terms are not good: BAD [widest]",
            "link 0-1 1 5 = 0", "widest -1 0 = BAD", "widest 0-0 0 = BAD", "widest 5-5 0 = BAD", "widest 36 0 = BAD",
            "widest 37 0 = BAD", "widest 0-1 -1 = BAD", "widest 0-1 32 = BAD", "widest 1-0 0 = 5", "widest 0-1 31 = 5");
    }

    private static void flow() {
        List<String> full = new ArrayList<>();
        for (int a = 0; a < 6; a++) {
            for (int b = a + 1; b < 6; b++) {
                full.add("link " + a + "-" + b + " 20 100 = 0");
            }
        }
        full.add("flow 0-5 0 = 500");
        full.add("flow 5-0 31 = 500");
        full.add("flow 2-3 p1a7 = 500");
        Script.sentence("The greatest amount that could flow from the first end to the second one",
            full.toArray(new String[0]));
        // Both ways over 1-2: 1 unit goes from 1 to 2 for the ends 0-3, and from 2 to 1 for the ends 3-0.
        Script.sentence("in one direction or the other, by as much as its room for the priority is",
            "link 0-1 1 2 = 0", "link 0-2 1 1 = 0", "link 1-2 1 1 = 0", "link 1-3 1 1 = 0", "link 2-3 1 2 = 0",
            "flow 0-3 0 = 3", "flow 3-0 0 = 3", "change 1-2 1 0 = 0", "flow 0-3 0 = 2", "flow 3-0 0 = 2",
            "change 1-2 1 100 = 0", "flow 0-3 0 = 3", "flow 1-2 0 = 102");
        Script.sentence("what comes into any other node goes out of it",
            "link 0-1 1 100 = 0", "link 0-2 1 100 = 0", "link 1-3 1 100 = 0", "link 2-3 1 100 = 0", "flow 0-4 0 = 0",
            "link 3-4 1 1 = 0", "flow 0-4 0 = 1", "flow 4-0 0 = 1", "flow 0-3 0 = 200", "flow 0-5 0 = 0");
        Script.sentence("ends or terms are not good: BAD [flow]",
            "link 0-1 1 5 = 0", "flow -1 0 = BAD", "flow 0-0 0 = BAD", "flow 5-5 0 = BAD", "flow 36 0 = BAD",
            "flow 37 0 = BAD", "flow 0-1 -1 = BAD", "flow 0-1 32 = BAD", "flow 1-0 0 = 5", "flow 0-1 31 = 5");
    }

    private static void flowOfRooms() {
        // What a call can see is settled, so a room that lets nothing pass is one of 0.
        Script.sentence("(none if that is below 0)",
            "link 0-1 1 5 = 0", "link 0-2 1 7 = 0", "link 1-2 1 7 = 0", "flow 0-1 0 = 12", "want 0 0-1 5 p1 = 1",
            "flow 0-1 p0 = 12", "flow 0-1 p1 = 7", "flow 0-1 p3 = 7", "want 1 0-1 7 p2 = 1", "flow 0-1 p1 = 7",
            "flow 0-1 p2 = 0", "flow 0-1 p3 = 0", "change 0-1 1 4 = 1", "state 1 = 1", "flow 0-1 p0 = 11",
            "flow 0-1 p1 = 6", "flow 0-1 p3 = 6", "change 0-2 1 0 = 0", "flow 0-1 p3 = 4", "change 0-1 1 0 = 0",
            "flow 0-1 p0 = 0", "flow 1-2 p0 = 7");
        Script.sentence("if every link that is up and has no avoided colour could be passed",
            "link 0-1 1 5 = 0", "link 0-2 1 7 = 0", "link 1-2 1 7 = 0", "change 0-1 2 5 = 0", "flow 0-1 p0a2 = 12",
            "flow 0-1 p0a4 = 7", "flow 0-1 p0a1 = 7", "change 1-2 3 0 = 0", "flow 0-1 p0 = 5", "flow 0-1 p0a7 = 0");
    }

    private static void bridge() {
        Script.sentence("1 if a link is up, and there is no way between its nodes over other links that are up; else 0.",
            "link 0-1 1 0 = 0", "bridge 0-1 = 1", "change 0-1 3 0 = 0", "bridge 0-1 = 0", "change 0-1 3 1 = 0",
            "link 1-2 1 0 = 0", "bridge 0-1 = 1", "bridge 1-2 = 1", "link 0-2 1 0 = 0", "bridge 0-1 = 0",
            "bridge 1-2 = 0", "bridge 0-2 = 0", "change 0-2 2 7 = 0", "bridge 0-1 = 0", "change 0-2 3 0 = 0",
            "bridge 0-1 = 1", "bridge 0-2 = 0", "unlink 1-2 = 0", "change 0-2 3 1 = 0", "bridge 0-2 = 1");
        // The longest way round: all six nodes.
        Script.sentence("1 if a link is up, and there is no way between its nodes over other links that are up; else 0.",
            "link 0-5 1 0 = 0", "link 4-5 1 0 = 0", "link 1-4 1 0 = 0", "link 1-3 1 0 = 0", "link 2-3 1 0 = 0",
            "bridge 0-5 = 1", "bridge 1-4 = 1", "link 0-2 1 0 = 0", "bridge 0-5 = 0", "bridge 4-5 = 0", "bridge 1-4 = 0",
            "bridge 1-3 = 0", "bridge 2-3 = 0", "bridge 0-2 = 0");
        // Here the codes on the way from 2 to 3 go down from link to link.
        Script.sentence("1 if a link is up, and there is no way between its nodes over other links that are up; else 0.",
            "link 2-3 1 0 = 0", "link 2-5 1 0 = 0", "link 1-5 1 0 = 0", "link 1-4 1 0 = 0", "link 0-4 1 0 = 0",
            "bridge 2-3 = 1", "link 0-3 1 0 = 0", "bridge 2-3 = 0");
        Script.sentence("code is not good: BAD; the link is not there: NONE [bridge]",
            "link 0-1 1 1 = 0", "bridge -1 = BAD", "bridge 0-0 = BAD", "bridge 1-0 = BAD", "bridge 5-5 = BAD",
            "bridge 36 = BAD", "bridge 37 = BAD", "bridge 0-2 = NONE", "unlink 0-1 = 0", "bridge 0-1 = NONE");
    }

    private static void groups() {
        Script.sentence("nodes are in one group if there is a way between them over links that are up",
            "groups = 6", "link 0-5 1 0 = 0", "groups = 5", "link 4-5 1 0 = 0", "groups = 4", "link 1-4 1 0 = 0",
            "groups = 3", "link 1-3 1 0 = 0", "groups = 2", "link 2-3 1 0 = 0", "groups = 1", "link 0-1 1 0 = 0",
            "groups = 1", "change 2-3 3 0 = 0", "groups = 2", "change 0-5 2 7 = 0", "groups = 2", "unlink 0-5 = 0",
            "groups = 2", "unlink 0-1 = 0", "groups = 3", "change 1-4 3 0 = 0", "groups = 4", "unlink 4-5 = 0",
            "groups = 5", "unlink 1-3 = 0", "groups = 6", "change 2-3 3 1 = 0", "groups = 5");
    }

    /** Each argument in turn, the others good; with what they name there, and without. */
    private static void leastAndGreatestInt() {
        String[] calls = {
            "link 0-1 1 1", "unlink 0-1", "change 0-1 0 1", "change 0-1 1 1", "change 0-1 2 1", "change 0-1 3 1",
            "look 0-1 0", "room 0-1 0", "want 0 0-1 1 0", "release 0", "improve 0", "state 0", "node 0 0", "cost 0",
            "over 0-1", "quote 0-1 1 0", "widest 0-1 0", "flow 0-1 0", "bridge 0-1"};
        List<String> lines = new ArrayList<>();
        for (String call : calls) {
            String[] words = call.split(" ");
            for (int i = 1; i < words.length; i++) {
                String good = words[i];
                for (String extreme : new String[] {"MIN", "MAX"}) {
                    words[i] = extreme;
                    boolean isPlace = words[0].equals("node") && i == 2;
                    lines.add(String.join(" ", words) + (isPlace ? " = NONE" : " = BAD"));
                }
                words[i] = good;
            }
        }
        List<String> twice = new ArrayList<>(lines);
        twice.add("link 0-1 1 1 = 0");
        twice.add("want 0 0-1 1 0 = 1");
        twice.addAll(lines);
        twice.add("look 0-1 4 = 1");
        twice.add("path 0 = 0-1");
        Script.sentence("the least and the greatest int as an argument", twice.toArray(new String[0]));
    }
}
