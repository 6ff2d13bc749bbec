import java.util.ArrayList;
import java.util.List;

/** The document's part 'Terms' up to SETTLING: each sentence that names a boundary, on its two sides. */
public final class TermsTest {
    private static final List<Integer> GOOD_CODES = List.of(1, 2, 3, 4, 5, 8, 9, 10, 11, 15, 16, 17, 22, 23, 29);
    private static final List<Integer> SAME_TWICE = List.of(0, 7, 14, 21, 28, 35);

    public static void main(String[] args) {
        codes();
        numbersOfALink();
        colourSets();
        atFirst();
        numbersOfATunnel();
        ends();
        paths();
        load();
        room();
        fit();
        fitWithoutItself();
        lesserSum();
        fewerLinks();
        lesserNode();
        fromTheFirstEnd();
        Script.finish();
    }

    private static void codes() {
        List<String> lines = new ArrayList<>();
        for (int code = -40; code <= 80; code++) {
            lines.add("link " + code + " 1 1 = " + (GOOD_CODES.contains(code) ? "0" : "BAD"));
        }
        // Good ones only for a program that keeps the lowest bits of a number.
        for (int code : new int[] {1 + 256, 1 - 256, 1 + 65536, 1 - 65536, Integer.MIN_VALUE + 1, Integer.MAX_VALUE - 1}) {
            lines.add("link " + code + " 1 1 = BAD");
        }
        lines.add("groups = 1");
        Script.sentence("Two different nodes a < b may be joined by a LINK, whose CODE is 6 * a + b",
            lines.toArray(new String[0]));
    }

    private static void numbersOfALink() {
        Script.sentence("it has a COST 1 .. 20",
            "link 0-1 0 5 = BAD", "link 0-1 21 5 = BAD", "link 0-1 -1 5 = BAD", "look 0-1 0 = NONE",
            "link 0-1 1 5 = 0", "look 0-1 0 = 1", "link 4-5 20 5 = 0", "look 4-5 0 = 20",
            "change 0-1 0 0 = BAD", "change 0-1 0 21 = BAD", "look 0-1 0 = 1",
            "change 0-1 0 20 = 0", "look 0-1 0 = 20", "change 4-5 0 1 = 0", "look 4-5 0 = 1");
        Script.sentence("a CAPACITY 0 .. 100",
            "link 0-1 5 -1 = BAD", "link 0-1 5 101 = BAD", "look 0-1 1 = NONE",
            "link 0-1 5 0 = 0", "look 0-1 1 = 0", "link 4-5 5 100 = 0", "look 4-5 1 = 100",
            "change 0-1 1 -1 = BAD", "change 0-1 1 101 = BAD", "look 0-1 1 = 0",
            "change 0-1 1 100 = 0", "look 0-1 1 = 100", "change 4-5 1 0 = 0", "look 4-5 1 = 0");
        Script.sentence("COLOURS (a set written as a number 0 .. 7)",
            "link 0-1 5 5 = 0", "look 0-1 2 = 0", "change 0-1 2 -1 = BAD", "change 0-1 2 8 = BAD", "look 0-1 2 = 0",
            "change 0-1 2 7 = 0", "look 0-1 2 = 7", "change 0-1 2 8 = BAD", "look 0-1 2 = 7",
            "change 0-1 2 0 = 0", "look 0-1 2 = 0");
        Script.sentence("and is UP or DOWN",
            "link 0-1 5 5 = 0", "look 0-1 3 = 1", "change 0-1 3 -1 = BAD", "change 0-1 3 2 = BAD", "look 0-1 3 = 1",
            "change 0-1 3 0 = 0", "look 0-1 3 = 0", "change 0-1 3 2 = BAD", "change 0-1 3 0 = 0", "look 0-1 3 = 0",
            "change 0-1 3 1 = 0", "look 0-1 3 = 1");
    }

    private static void colourSets() {
        for (int avoided = 0; avoided < 8; avoided++) {
            List<String> lines = new ArrayList<>();
            lines.add("link 0-1 1 9 = 0");
            lines.add("want 0 0-1 1 p1a" + avoided + " = 1");
            for (int colours = 0; colours < 8; colours++) {
                int placed = (colours & avoided) == 0 ? 1 : 0;
                lines.add("change 0-1 2 " + colours + " = " + placed);
                lines.add("state 0 = " + (1 + placed));
                lines.add("quote 1-0 1 p3a" + avoided + " = " + (placed == 1 ? "1" : "NONE"));
                lines.add("widest 1-0 p0a" + avoided + " = " + 9 * placed);
                lines.add("flow 1-0 p0a" + avoided + " = " + 9 * placed);
            }
            Script.sentence("has no colour that the tunnel avoids", lines.toArray(new String[0]));
        }
    }

    private static void atFirst() {
        List<String> links = new ArrayList<>();
        for (int code : GOOD_CODES) {
            links.add("look " + code + " 0 = NONE");
            links.add("look " + code + " 4 = NONE");
            links.add("room " + code + " 3 = NONE");
            links.add("over " + code + " = NONE");
            links.add("bridge " + code + " = NONE");
            links.add("unlink " + code + " = NONE");
            links.add("change " + code + " 3 1 = NONE");
            links.add("quote " + code + " 1 0 = NONE");
            links.add("widest " + code + " 0 = 0");
            links.add("flow " + code + " 0 = 0");
        }
        links.add("groups = 6");
        Script.sentence("At first there are no links.", links.toArray(new String[0]));
        List<String> tunnels = new ArrayList<>();
        for (int t = 0; t < 8; t++) {
            tunnels.add("state " + t + " = 0");
            tunnels.add("node " + t + " 0 = NONE");
            tunnels.add("cost " + t + " = NONE");
            tunnels.add("release " + t + " = NONE");
            tunnels.add("improve " + t + " = NONE");
        }
        tunnels.add("link 0-1 1 100 = 0");
        tunnels.add("over 0-1 = 0");
        Script.sentence("at first there are none", tunnels.toArray(new String[0]));
    }

    private static void numbersOfATunnel() {
        Script.sentence("There may be TUNNELS 0 .. 7",
            "link 0-1 1 8 = 0", "want -1 0-1 1 0 = BAD", "want 8 0-1 1 0 = BAD", "state -1 = BAD", "state 8 = BAD",
            "want 0 0-1 1 0 = 1", "want 1 0-1 1 0 = 1", "want 2 0-1 1 0 = 1", "want 3 0-1 1 0 = 1",
            "want 4 0-1 1 0 = 1", "want 5 0-1 1 0 = 1", "want 6 0-1 1 0 = 1", "want 7 0-1 1 0 = 1",
            "want 8 0-1 1 0 = BAD", "over 0-1 = 8", "state 0 = 2", "state 7 = 2");
        Script.sentence("a BANDWIDTH 1 .. 100",
            "link 0-1 1 100 = 0", "want 0 0-1 0 0 = BAD", "want 0 0-1 101 0 = BAD", "want 0 0-1 -1 0 = BAD",
            "state 0 = 0", "want 0 0-1 100 p1 = 1", "look 0-1 4 = 100", "want 1 0-1 1 p0 = 1", "look 0-1 4 = 1",
            "quote 0-1 0 0 = BAD", "quote 0-1 101 0 = BAD", "quote 0-1 99 0 = 1", "quote 0-1 100 0 = NONE");
        Script.sentence("a PRIORITY 0 .. 3 (0 the most urgent)",
            "link 0-1 1 5 = 0", "want 0 0-1 5 p3 = 1", "want 1 0-1 5 p2 = 1", "state 0 = 1",
            "want 2 0-1 5 p1 = 1", "state 1 = 1", "want 3 0-1 5 p0 = 1", "state 2 = 1", "state 3 = 2",
            "want 4 0-1 5 p0 = 0", "want 5 0-1 5 p4 = BAD", "want 5 0-1 5 -1 = BAD", "state 5 = 0");
        Script.sentence("a set of colours 0 .. 7 that it AVOIDS",
            "link 0-1 1 5 = 0", "change 0-1 2 7 = 0", "want 0 0-1 1 p0a0 = 1", "want 1 0-1 1 p0a7 = 0",
            "want 2 0-1 1 p3a0 = 1", "want 3 0-1 1 p3a7 = 0", "want 4 0-1 1 32 = BAD", "look 0-1 4 = 2");
        Script.sentence("terms are good if they are 8 * priority + avoided colours, 0 .. 31",
            "want 0 0-1 1 -1 = BAD", "want 0 0-1 1 32 = BAD", "want 0 0-1 1 0 = 0", "want 1 0-1 1 31 = 0",
            "quote 0-1 1 -1 = BAD", "quote 0-1 1 32 = BAD", "quote 0-1 1 0 = NONE", "quote 0-1 1 31 = NONE",
            "widest 0-1 -1 = BAD", "widest 0-1 32 = BAD", "widest 0-1 0 = 0", "widest 0-1 31 = 0",
            "flow 0-1 -1 = BAD", "flow 0-1 32 = BAD", "flow 0-1 0 = 0", "flow 0-1 31 = 0");
    }

    private static void ends() {
        List<String> lines = new ArrayList<>();
        for (int ends = -8; ends <= 44; ends++) {
            boolean good = ends >= 0 && ends < 36 && !SAME_TWICE.contains(ends);
            lines.add("want 7 " + ends + " 1 0 = " + (good ? "0" : "BAD"));
            lines.add("release 7 = " + (good ? "0" : "NONE"));
            lines.add("quote " + ends + " 1 0 = " + (good ? "NONE" : "BAD"));
            lines.add("widest " + ends + " 0 = " + (good ? "0" : "BAD"));
            lines.add("flow " + ends + " 0 = " + (good ? "0" : "BAD"));
        }
        Script.sentence("ends are good if they are 6 * a + b for two different nodes (a the first end)",
            lines.toArray(new String[0]));
    }

    private static void paths() {
        Script.sentence("A PATH is a list of different nodes, each of which is joined with the next by a link.",
            "link 0-5 1 9 = 0", "want 0 0-5 1 0 = 1", "path 0 = 0-5", "want 1 5-0 1 0 = 1", "path 1 = 5-0",
            // The longest: all six nodes.
            "link 0-3 20 9 = 2", "link 1-3 20 9 = 2", "link 1-4 20 9 = 2", "link 2-4 20 9 = 2", "link 2-5 20 9 = 2",
            "change 0-5 3 0 = 2", "path 0 = 0-3-1-4-2-5", "path 1 = 5-2-4-1-3-0", "cost 0 = 100",
            "change 1-4 3 0 = 0", "path 0 = NONE", "path 1 = NONE");
    }

    private static void load() {
        Script.sentence("THE LOAD of a link is the sum of the bandwidths of the tunnels placed over it.",
            "link 0-1 1 100 = 0", "look 0-1 4 = 0", "want 0 0-1 1 p3 = 1", "look 0-1 4 = 1",
            "want 1 1-0 59 p0 = 1", "look 0-1 4 = 60", "want 2 0-1 41 p3 = 0", "look 0-1 4 = 60",
            "want 3 0-1 40 p3 = 1", "look 0-1 4 = 100", "link 1-2 1 100 = 3", "want 4 0-2 100 p0 = 0",
            "release 1 = 1", "look 0-1 4 = 100", "look 1-2 4 = 100", "release 4 = 3", "look 0-1 4 = 82",
            "look 1-2 4 = 0", "change 0-1 3 0 = 0", "look 0-1 4 = 0");
    }

    private static void room() {
        Script.sentence("minus the sum of the bandwidths of those tunnels placed over it whose priority is p or less",
            "link 0-1 1 10 = 0", "room 0-1 0 = 1010", "room 0-1 3 = 1010", "want 0 0-1 4 p1 = 1",
            "want 1 0-1 3 p2 = 1", "want 2 1-0 3 p3 = 1", "want 3 0-1 1 p3 = 0", "room 0-1 0 = 1010",
            "room 0-1 1 = 1006", "room 0-1 2 = 1003", "room 0-1 3 = 1000", "want 4 0-1 2 p0 = 1",
            "state 2 = 1", "state 3 = 2", "room 0-1 0 = 1008", "room 0-1 1 = 1004", "room 0-1 2 = 1001",
            "room 0-1 3 = 1000");
        // What a call can see is settled, and then no load is above its capacity: the least room seen is 0.
        Script.sentence("(it may be below 0)",
            "link 0-1 1 100 = 0", "want 0 0-1 100 p3 = 1", "room 0-1 3 = 1000", "room 0-1 2 = 1100",
            "want 1 0-1 100 p0 = 1", "state 0 = 1", "room 0-1 0 = 1000", "room 0-1 3 = 1000",
            "change 0-1 1 99 = 0", "room 0-1 0 = 1099", "room 0-1 3 = 1099", "change 0-1 1 0 = 0",
            "room 0-1 0 = 1000", "room 0-1 3 = 1000", "change 0-1 1 1 = 0", "room 0-1 3 = 1001");
    }

    private static void fit() {
        Script.sentence("if each of its links is up",
            "link 0-1 1 9 = 0", "link 1-2 1 9 = 0", "link 2-3 1 9 = 0", "quote 0-3 9 0 = 3",
            "change 0-1 3 0 = 0", "quote 0-3 1 0 = NONE", "change 0-1 3 1 = 0", "change 1-2 3 0 = 0",
            "quote 0-3 1 0 = NONE", "change 1-2 3 1 = 0", "change 2-3 3 0 = 0", "quote 0-3 1 0 = NONE",
            "want 0 0-3 1 0 = 0", "change 2-3 3 1 = 1", "quote 0-3 1 0 = 3");
        Script.sentence("room for its priority of at least its bandwidth",
            "link 0-1 1 10 = 0", "link 1-2 1 9 = 0", "quote 0-2 9 0 = 2", "quote 0-2 10 0 = NONE",
            "want 0 0-2 10 0 = 0", "want 1 0-2 9 p2 = 1", "quote 2-0 1 p2 = NONE", "quote 2-0 1 p3 = NONE",
            "quote 2-0 9 p1 = 2", "quote 2-0 10 p1 = NONE", "quote 1-0 1 p2 = 1", "quote 1-0 2 p2 = NONE",
            "want 2 2-0 1 p2 = 0", "want 3 2-0 8 p1 = 1", "state 1 = 1", "state 2 = 2");
        // A link with a capacity of 0 has room for none, but joins its nodes.
        Script.sentence("a CAPACITY 0 .. 100",
            "link 0-1 1 0 = 0", "want 0 0-1 1 p0 = 0", "quote 0-1 1 0 = NONE", "widest 0-1 0 = 0", "flow 0-1 0 = 0",
            "room 0-1 0 = 1000", "look 0-1 4 = 0", "over 0-1 = 0", "bridge 0-1 = 1", "groups = 5",
            "change 0-1 1 1 = 1", "room 0-1 0 = 1000", "room 0-1 3 = 1000", "change 0-1 1 0 = 0", "over 0-1 = 0");
    }

    private static void fitWithoutItself() {
        // 0-1 is just as wide as the tunnel that passes it already.
        Script.sentence("has, not counting the tunnel itself, room for its priority",
            "link 0-1 1 6 = 0", "link 1-3 1 6 = 0", "link 2-3 1 6 = 0", "want 0 0-2 6 p0 = 1", "path 0 = 0-1-3-2",
            "link 1-2 1 5 = 1", "improve 0 = 0", "path 0 = 0-1-3-2", "change 1-2 1 6 = 1", "improve 0 = 1",
            "path 0 = 0-1-2", "look 0-1 4 = 6", "look 1-3 4 = 0");
        Script.sentence("(or for one that might be)",
            "link 0-1 1 6 = 0", "want 0 0-1 6 p0 = 1", "quote 0-1 1 p0 = NONE", "widest 0-1 p0 = 0", "flow 0-1 p0 = 0");
    }

    private static void lesserSum() {
        Script.sentence("THE BETTER one has the lesser sum of costs",
            "link 0-1 1 9 = 0", "link 1-2 1 9 = 0", "link 2-3 1 9 = 0", "link 3-4 1 9 = 0", "link 4-5 1 9 = 0",
            "link 0-5 6 9 = 0", "want 0 0-5 1 0 = 1", "path 0 = 0-1-2-3-4-5", "improve 0 = 0", "quote 0-5 1 0 = 5");
        Script.sentence("THE BETTER one has the lesser sum of costs",
            "link 0-1 20 9 = 0", "link 1-5 20 9 = 0", "link 0-4 20 9 = 0", "link 4-5 19 9 = 0",
            "want 0 0-5 1 0 = 1", "path 0 = 0-4-5", "want 1 5-0 1 0 = 1", "path 1 = 5-4-0", "cost 1 = 39");
    }

    private static void fewerLinks() {
        Script.sentence("with the same sum, the fewer links",
            "link 0-1 1 9 = 0", "link 1-2 1 9 = 0", "link 2-3 1 9 = 0", "link 3-4 1 9 = 0", "link 4-5 1 9 = 0",
            "link 0-5 5 9 = 0", "want 0 0-5 1 0 = 1", "path 0 = 0-5", "want 1 5-0 1 0 = 1", "path 1 = 5-0",
            "change 0-5 3 0 = 2", "path 0 = 0-1-2-3-4-5", "change 0-5 3 1 = 2", "improve 0 = 1", "path 0 = 0-5",
            "improve 0 = 0");
        // The longer one goes over lesser nodes.
        Script.sentence("with the same sum, the fewer links",
            "link 0-1 1 9 = 0", "link 1-2 1 9 = 0", "link 2-5 1 9 = 0", "link 0-4 1 9 = 0", "link 4-5 2 9 = 0",
            "want 0 0-5 1 0 = 1", "path 0 = 0-4-5", "want 1 5-0 1 0 = 1", "path 1 = 5-4-0");
        Script.sentence("with the same sum, the fewer links",
            "link 0-1 1 9 = 0", "link 1-2 1 9 = 0", "link 2-3 1 9 = 0", "link 3-5 1 9 = 0", "link 1-4 2 9 = 0",
            "link 4-5 1 9 = 0", "want 0 0-5 1 0 = 1", "path 0 = 0-1-4-5");
    }

    private static void lesserNode() {
        Script.sentence("the lesser node at the first place at which they differ",
            "link 0-1 1 9 = 0", "link 1-4 1 9 = 0", "link 4-5 1 9 = 0", "link 0-2 1 9 = 0", "link 2-3 1 9 = 0",
            "link 3-5 1 9 = 0", "want 0 0-5 1 0 = 1", "path 0 = 0-1-4-5", "improve 0 = 0");
        Script.sentence("the lesser node at the first place at which they differ",
            "link 0-4 1 9 = 0", "link 3-4 1 9 = 0", "link 3-5 1 9 = 0", "link 2-4 1 9 = 0", "link 2-5 1 9 = 0",
            "want 0 0-5 1 0 = 1", "path 0 = 0-4-2-5");
        Script.sentence("the lesser node at the first place at which they differ",
            "link 2-5 1 9 = 0", "link 4-5 1 9 = 0", "link 1-4 1 9 = 0", "link 3-4 1 9 = 0", "link 0-1 1 9 = 0",
            "link 0-3 1 9 = 0", "want 0 2-0 1 0 = 1", "path 0 = 2-5-4-1-0");
        Script.sentence("the lesser node at the first place at which they differ",
            "link 0-1 1 9 = 0", "link 1-3 1 9 = 0", "link 0-2 1 9 = 0", "link 2-3 1 9 = 0", "want 0 0-3 9 0 = 1",
            "path 0 = 0-1-3", "want 1 0-3 9 0 = 1", "path 1 = 0-2-3", "improve 1 = 0", "release 0 = 1",
            "improve 1 = 1", "path 1 = 0-1-3");
    }

    private static void fromTheFirstEnd() {
        // The same links as one tie, told from both ends.
        Script.sentence("The path goes from the first end to the second one.",
            "link 0-1 1 9 = 0", "link 1-4 1 9 = 0", "link 4-5 1 9 = 0", "link 0-2 1 9 = 0", "link 2-3 1 9 = 0",
            "link 3-5 1 9 = 0", "want 0 0-5 1 0 = 1", "want 1 5-0 1 0 = 1", "path 0 = 0-1-4-5", "path 1 = 5-3-2-0");
    }
}
