/** The document's SETTLING: each of its words that decides between tunnels or links, and the edges of each step. */
public final class SettlingTest {
    private static final String GREATEST_NUMBER = "of several the one with the greatest number, becomes idle";
    private static final String FIRST_FIT = "the first one of them for which there is a fit path is placed";

    public static void main(String[] args) {
        brokenLinks();
        brokenOnesArePlacedInOrder();
        aboveCapacity();
        leastCode();
        greatestPriority();
        greatestNumber();
        asLongAs();
        lesserPriorityFirst();
        lesserNumberFirst();
        firstFit();
        onTheBestOne();
        doneAgain();
        placedOnesStay();
        Script.finish();
    }

    private static void brokenLinks() {
        Script.sentence("Every tunnel that is placed over a link that is not there any more [becomes idle]",
            "link 0-1 1 9 = 0", "link 1-2 1 9 = 0", "want 0 0-2 1 p0 = 1", "want 7 2-0 1 p3 = 1", "want 3 0-1 1 p1 = 1",
            "unlink 1-2 = 1", "state 0 = 1", "state 7 = 1", "state 3 = 2", "look 0-1 4 = 1", "cost 0 = NONE",
            // A link that is made anew has the old code, and not the old load.
            "unlink 0-1 = 0", "link 0-1 1 0 = 0", "look 0-1 4 = 0", "over 0-1 = 0", "change 0-1 1 9 = 1",
            "link 1-2 5 1 = 2", "state 0 = 2", "state 7 = 1");
        Script.sentence("[over a link that] is down",
            "link 0-1 1 9 = 0", "link 1-2 1 9 = 0", "want 0 0-2 1 p0 = 1", "want 7 2-0 1 p3 = 1", "want 3 0-1 1 p1 = 1",
            "change 1-2 3 0 = 1", "state 0 = 1", "state 7 = 1", "state 3 = 2", "look 1-2 4 = 0", "over 1-2 = 0",
            "change 1-2 3 0 = 1", "change 1-2 3 1 = 3");
        Script.sentence("[over a link that] has a colour that it avoids, becomes idle",
            "link 0-1 1 9 = 0", "link 1-2 1 9 = 0", "want 0 0-2 1 p0a6 = 1", "want 7 2-0 1 p3a4 = 1",
            "want 3 0-2 1 p1a1 = 1", "change 1-2 2 2 = 2", "state 0 = 1", "change 1-2 2 4 = 1", "state 7 = 1",
            "state 3 = 2", "change 1-2 2 5 = 0", "change 1-2 2 1 = 2", "state 3 = 1", "change 1-2 2 0 = 3");
        Script.sentence("Every tunnel [..] becomes idle",
            "link 0-1 1 8 = 0", "want 0 0-1 1 p0 = 1", "want 1 0-1 1 p1 = 1", "want 2 0-1 1 p2 = 1",
            "want 3 0-1 1 p3 = 1", "want 4 0-1 1 p0 = 1", "want 5 0-1 1 p1 = 1", "want 6 0-1 1 p2 = 1",
            "want 7 0-1 1 p3 = 1", "change 0-1 3 0 = 0", "change 0-1 3 1 = 8", "unlink 0-1 = 0", "link 0-1 2 8 = 8");
    }

    private static void brokenOnesArePlacedInOrder() {
        // All of them are idle before the first one is placed again, and 0-2-1 has room for one.
        Script.sentence("1. Every tunnel [..] becomes idle. 2. [..] 3. The idle tunnels are looked at",
            "link 0-1 1 9 = 0", "link 0-2 1 5 = 0", "link 1-2 1 5 = 0", "want 0 0-1 3 p3 = 1", "want 1 0-1 3 p2 = 1",
            "want 2 0-1 3 p2 = 1", "change 0-1 3 0 = 1", "state 0 = 1", "path 1 = 0-2-1", "state 2 = 1");
    }

    private static void aboveCapacity() {
        Script.sentence("a link whose load is above its capacity",
            "link 0-1 1 10 = 0", "want 0 0-1 6 p1 = 1", "want 1 0-1 4 p1 = 1", "change 0-1 1 10 = 2",
            "change 0-1 1 9 = 1", "state 0 = 2", "state 1 = 1", "change 0-1 1 6 = 1", "state 0 = 2",
            // 0 is too wide now, and the one that had to go before it fits.
            "change 0-1 1 5 = 1", "state 0 = 1", "state 1 = 2", "change 0-1 1 4 = 1", "change 0-1 1 3 = 0");
        Script.sentence("a link whose load is above its capacity",
            "link 0-1 1 100 = 0", "want 0 0-1 100 p0 = 1", "change 0-1 1 100 = 1", "change 0-1 1 99 = 0",
            "want 1 0-1 99 p3 = 1", "change 0-1 1 0 = 0", "change 0-1 1 1 = 0", "change 0-1 1 99 = 1",
            "change 0-1 1 100 = 1", "state 0 = 2", "state 1 = 1");
    }

    private static void leastCode() {
        // Tunnel 3 overloads 0-1 and 1-2. At 0-1 it is 0 that goes, and 1-2 is relieved with it.
        // Were 1-2 looked at first, 2 would become idle and come back on the way 1-3-2, which is better by now.
        Script.sentence("the one of these links with the least code",
            "link 0-1 1 10 = 0", "link 1-2 9 10 = 0", "want 0 0-2 4 p2 = 1", "want 1 0-1 6 p1 = 1",
            "want 2 1-2 6 p3 = 1", "link 1-3 1 10 = 3", "link 2-3 1 10 = 3", "change 1-3 2 1 = 3",
            "want 3 0-2 4 p0a1 = 1", "path 3 = 0-1-2", "state 0 = 1", "path 1 = 0-1", "path 2 = 1-2");
        // The same with the two links told the other way round: 2 goes first, and comes back.
        Script.sentence("the one of these links with the least code",
            "link 4-5 1 10 = 0", "link 3-4 9 10 = 0", "want 0 5-3 4 p2 = 1", "want 1 5-4 6 p1 = 1",
            "want 2 4-3 6 p3 = 1", "link 2-4 1 10 = 3", "link 2-3 1 10 = 3", "change 2-4 2 1 = 3",
            "want 3 5-3 4 p0a1 = 1", "path 3 = 5-4-3", "state 0 = 1", "path 1 = 5-4", "path 2 = 4-2-3");
        // The greater overload does not count: 0-1 lacks 1 and 1-2 lacks 2, but 0 goes first again.
        Script.sentence("the one of these links with the least code",
            "link 0-1 1 10 = 0", "link 1-2 9 10 = 0", "want 0 0-2 5 p2 = 1", "want 1 0-1 4 p1 = 1",
            "want 2 1-2 5 p3 = 1", "link 1-3 1 10 = 3", "link 2-3 1 10 = 3", "change 1-3 2 1 = 3",
            "want 3 0-2 2 p0a1 = 1", "path 3 = 0-1-2", "state 0 = 1", "path 1 = 0-1", "path 2 = 1-2");
    }

    private static void greatestPriority() {
        Script.sentence("the one with the greatest priority",
            "link 0-1 1 10 = 0", "want 0 0-1 1 p3 = 1", "want 1 0-1 4 p0 = 1", "want 2 0-1 5 p2 = 1",
            "change 0-1 1 9 = 2", "state 0 = 1", "state 1 = 2", "state 2 = 2", "change 0-1 1 8 = 2",
            // Once 2 is gone, there is room again for 0.
            "state 0 = 2", "state 1 = 2", "state 2 = 1", "change 0-1 1 4 = 1", "state 1 = 2", "change 0-1 1 3 = 1",
            "state 0 = 2", "state 1 = 1");
        // Were it the more urgent 0, it would come back on the better way.
        Script.sentence("the one with the greatest priority",
            "link 0-1 9 10 = 0", "want 0 0-1 5 p0 = 1", "want 1 0-1 5 p1 = 1", "link 0-2 1 5 = 2", "link 1-2 1 5 = 2",
            "change 0-1 1 9 = 2", "path 0 = 0-1", "path 1 = 0-2-1");
    }

    private static void greatestNumber() {
        Script.sentence(GREATEST_NUMBER,
            "link 0-1 1 10 = 0", "want 7 0-1 1 p3 = 1", "want 5 0-1 4 p3 = 1", "want 6 0-1 5 p3 = 1",
            "change 0-1 1 9 = 2", "state 7 = 1", "state 6 = 2", "state 5 = 2",
            "change 0-1 1 8 = 2", "state 7 = 2", "state 6 = 1", "state 5 = 2");
        Script.sentence(GREATEST_NUMBER,
            "link 0-1 1 4 = 0", "want 0 0-1 2 p0 = 1", "want 1 0-1 2 p0 = 1", "change 0-1 1 3 = 1",
            "state 0 = 2", "state 1 = 1");
        Script.sentence(GREATEST_NUMBER,
            "link 0-1 9 10 = 0", "want 2 0-1 5 p2 = 1", "want 0 0-1 5 p2 = 1", "link 0-2 1 5 = 2", "link 1-2 1 5 = 2",
            "want 4 0-1 5 p1a1 = 1", "path 4 = 0-2-1", "change 0-1 1 9 = 2", "path 0 = 0-1", "state 2 = 1");
        // Only that one: had 0 become idle too, it would be on the better way now.
        Script.sentence(GREATEST_NUMBER,
            "link 0-1 9 10 = 0", "want 0 0-1 5 p2 = 1", "want 1 0-1 5 p2 = 1", "link 0-2 1 10 = 2", "link 1-2 1 10 = 2",
            "change 0-1 1 9 = 2", "path 0 = 0-1", "path 1 = 0-2-1");
    }

    private static void asLongAs() {
        Script.sentence("As long as there is a link whose load is above its capacity",
            "link 0-1 1 8 = 0", "want 0 0-1 1 p3 = 1", "want 1 0-1 1 p2 = 1", "want 2 0-1 1 p1 = 1",
            "want 3 0-1 1 p0 = 1", "want 4 0-1 1 p3 = 1", "want 5 0-1 1 p2 = 1", "want 6 0-1 1 p1 = 1",
            "want 7 0-1 1 p0 = 1", "change 0-1 1 3 = 3", "state 3 = 2", "state 7 = 2", "state 2 = 2", "state 6 = 1",
            "change 0-1 1 0 = 0", "over 0-1 = 0", "change 0-1 1 8 = 8");
        // 2 and 1 have to go for 5 less, and then there is room for 2.
        Script.sentence("As long as there is a link whose load is above its capacity",
            "link 0-1 1 10 = 0", "want 0 0-1 5 p3 = 1", "want 1 0-1 4 p3 = 1", "want 2 0-1 1 p3 = 1",
            "change 0-1 1 6 = 2", "state 0 = 2", "state 1 = 1", "state 2 = 2");
        // One tunnel that takes all drives out one over each of three links.
        Script.sentence("As long as there is a link whose load is above its capacity",
            "link 0-1 1 5 = 0", "link 1-2 1 5 = 0", "link 2-3 1 5 = 0", "want 0 0-1 5 p1 = 1", "want 1 1-2 5 p2 = 1",
            "want 2 2-3 5 p3 = 1", "want 3 3-0 5 p0 = 1", "state 0 = 1", "state 1 = 1", "state 2 = 1", "release 3 = 3");
    }

    private static void lesserPriorityFirst() {
        // Had 0 been placed first, 2 would drive it to the third way, and 1 would have the second one.
        Script.sentence("those with lesser priority first",
            "link 1-5 1 5 = 0", "link 1-2 1 5 = 0", "link 2-5 1 5 = 0", "link 1-3 2 5 = 0", "link 3-5 2 5 = 0",
            "want 0 0-5 5 p2 = 0", "want 1 0-5 5 p2 = 0", "want 2 0-5 5 p1 = 0", "link 0-1 1 100 = 3",
            "path 2 = 0-1-5", "path 0 = 0-1-2-5", "path 1 = 0-1-3-5");
        Script.sentence("those with lesser priority first",
            "want 0 0-1 5 p3 = 0", "want 1 0-1 5 p2 = 0", "want 2 0-1 5 p1 = 0", "want 3 0-1 5 p0 = 0",
            "link 0-1 1 9 = 1", "state 3 = 2", "change 0-1 1 10 = 2", "state 2 = 2", "change 0-1 1 15 = 3",
            "state 1 = 2", "change 0-1 1 20 = 4", "state 0 = 2");
    }

    private static void lesserNumberFirst() {
        Script.sentence("of the same priority those with the lesser number",
            "want 7 0-1 3 p1 = 0", "want 4 0-1 3 p1 = 0", "want 5 0-1 3 p1 = 0", "link 0-1 1 3 = 1", "state 4 = 2",
            "change 0-1 1 6 = 2", "state 5 = 2", "state 7 = 1", "release 4 = 2", "state 7 = 2");
        Script.sentence("of the same priority those with the lesser number",
            "want 6 0-1 1 p3 = 0", "want 0 0-1 9 p3 = 0", "link 0-1 1 9 = 1", "state 0 = 2", "state 6 = 1");
    }

    private static void firstFit() {
        Script.sentence(FIRST_FIT,
            "want 0 0-1 6 p0 = 0", "want 1 2-3 1 p0 = 0", "want 2 0-1 1 p0a1 = 0", "want 3 0-1 5 p1 = 0",
            "want 4 0-1 1 p2 = 0", "link 0-1 1 5 = 2", "state 2 = 2", "state 3 = 1", "state 4 = 2");
        // 2 takes the room before the less urgent 3, and there is just room for 4.
        Script.sentence(FIRST_FIT,
            "want 0 0-1 6 p0 = 0", "want 2 0-1 1 p0a1 = 0", "want 3 0-1 5 p1 = 0", "want 4 0-1 4 p2 = 0",
            "link 0-1 1 5 = 2", "state 0 = 1", "state 2 = 2", "state 3 = 1", "state 4 = 2", "change 0-1 1 6 = 2",
            "state 0 = 1", "state 3 = 2", "state 4 = 1", "change 0-1 1 7 = 2", "state 0 = 2", "state 3 = 1");
        Script.sentence(FIRST_FIT,
            "want 0 0-1 100 p0 = 0", "want 1 0-1 100 p3 = 0", "link 0-1 1 99 = 0", "state 0 = 1", "state 1 = 1",
            "change 0-1 1 100 = 1", "state 0 = 2", "state 1 = 1");
    }

    private static void onTheBestOne() {
        Script.sentence("is placed on the best one",
            "link 0-1 9 9 = 0", "link 0-2 1 4 = 0", "link 1-2 1 4 = 0", "link 0-3 2 9 = 0", "link 1-3 2 9 = 0",
            "want 0 0-1 4 p0 = 1", "path 0 = 0-2-1", "want 1 0-1 4 p0 = 1", "path 1 = 0-3-1",
            "want 2 0-1 6 p0 = 1", "path 2 = 0-1", "want 3 0-1 5 p0 = 1", "path 3 = 0-3-1");
    }

    private static void doneAgain() {
        // 2 drives 0 to the way round, where 0 drives out 1, which takes the last way left.
        Script.sentence("If there was one, 2 and 3 are done again.",
            "link 0-1 1 10 = 0", "link 0-2 1 6 = 0", "link 1-2 1 6 = 0", "link 0-3 9 5 = 0", "link 2-3 9 5 = 0",
            "want 0 0-1 6 p2 = 1", "want 1 0-2 5 p3 = 1", "path 1 = 0-2", "want 2 0-1 9 p1 = 1", "path 2 = 0-1",
            "path 0 = 0-2-1", "path 1 = 0-3-2", "release 2 = 2", "path 0 = 0-2-1", "path 1 = 0-3-2");
        // One after the other, each drives out the next: 3, 2, 1, 0 in the end.
        Script.sentence("If there was one, 2 and 3 are done again.",
            "link 0-1 1 5 = 0", "link 0-2 2 5 = 0", "link 1-2 2 5 = 0", "link 0-3 3 5 = 0", "link 1-3 3 5 = 0",
            "want 0 0-1 5 p3 = 1", "want 1 0-1 5 p2 = 1", "path 0 = 0-2-1", "want 2 0-1 5 p1 = 1", "path 1 = 0-2-1",
            "path 0 = 0-3-1", "want 3 0-1 5 p0 = 1", "path 3 = 0-1", "path 2 = 0-2-1", "path 1 = 0-3-1", "state 0 = 1");
        // 1 drives out 0, which is looked at before 7 and takes from it the way round.
        Script.sentence("If there was one, 2 and 3 are done again.",
            "link 0-1 1 5 = 0", "link 0-2 3 5 = 0", "link 1-2 3 5 = 0", "want 0 0-1 5 p2 = 1", "want 1 0-5 5 p1 = 0",
            "want 7 5-2 5 p2 = 0", "link 1-5 1 100 = 2", "path 1 = 0-1-5", "path 0 = 0-2-1", "state 7 = 1");
        Script.sentence("If there was one, 2 and 3 are done again.",
            "want 0 0-1 1 p0 = 0", "want 1 0-1 1 p1 = 0", "want 2 0-1 1 p2 = 0", "want 3 0-1 1 p3 = 0",
            "want 4 0-1 1 p0 = 0", "want 5 0-1 1 p1 = 0", "want 6 0-1 1 p2 = 0", "want 7 0-1 1 p3 = 0",
            "link 0-1 1 8 = 8", "unlink 0-1 = 0", "link 0-1 1 7 = 7", "state 7 = 1");
    }

    private static void placedOnesStay() {
        // Only idle tunnels are placed: a better path alone moves none.
        Script.sentence("The idle tunnels are looked at",
            "link 0-1 9 9 = 0", "want 0 0-1 1 p0 = 1", "link 0-2 1 9 = 1", "link 1-2 1 9 = 1", "path 0 = 0-1",
            "change 0-1 0 20 = 1", "path 0 = 0-1", "cost 0 = 20", "want 1 0-1 1 p0 = 1", "path 1 = 0-2-1",
            "path 0 = 0-1", "release 1 = 1", "path 0 = 0-1", "change 0-1 2 7 = 1", "path 0 = 0-1");
    }
}
