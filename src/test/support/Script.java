/**
 * Calls told as lines, each with the answer that is due: "want 0 5-0 20 p1a2 = 1".
 * 5-0 is a code or ends 6 * 5 + 0, p1a2 are terms with priority 1 that avoid the colours 2, MIN and MAX are
 * the least and the greatest int. "path 0 = 5-1-0" asks for all nodes of a tunnel's path, "path 0 = NONE" for none.
 */
final class Script {
    private static int wrong = 0;
    private static int sentences = 0;

    private Script() {
    }

    /** What the document says, and calls on a new object that would show it broken. */
    static void sentence(String said, String... lines) {
        sentences++;
        Program x = new Program();
        for (String line : lines) {
            String[] sides = line.split(" = ");
            String[] words = sides[0].split(" ");
            if (words[0].equals("path")) {
                duePath(said, line, x, number(words[1]), sides[1]);
            } else {
                due(said, line, x.call(words[0], arguments(words)), number(sides[1]));
            }
        }
    }

    static void finish() {
        System.out.println(wrong == 0
            ? "all answers are as due, for " + sentences + " sentences" : wrong + " answers are not as due");
        if (wrong != 0) {
            System.exit(1);
        }
    }

    private static void due(String said, String line, int got, int want) {
        if (got != want) {
            wrong++;
            System.out.println("\"" + said + "\": " + line + ": answered " + got);
        }
    }

    private static void duePath(String said, String line, Program x, int t, String path) {
        String[] nodes = path.equals("NONE") ? new String[0] : path.split("-");
        for (int i = 0; i < nodes.length; i++) {
            due(said, line + ", node " + i, x.node(t, i), number(nodes[i]));
        }
        due(said, line + ", past its end", x.node(t, nodes.length), TunnelNetwork.NONE);
    }

    private static int[] arguments(String[] words) {
        int[] arguments = new int[words.length - 1];
        for (int i = 0; i < arguments.length; i++) {
            arguments[i] = number(words[i + 1]);
        }
        return arguments;
    }

    private static int number(String word) {
        if (word.matches("\\d-\\d")) {
            return 6 * (word.charAt(0) - '0') + word.charAt(2) - '0';
        }
        if (word.matches("p\\d")) {
            return 8 * (word.charAt(1) - '0');
        }
        if (word.matches("p\\da\\d")) {
            return 8 * (word.charAt(1) - '0') + word.charAt(3) - '0';
        }
        return switch (word) {
            case "BAD" -> -1;
            case "NONE" -> -2;
            case "EXISTS" -> -3;
            case "MIN" -> Integer.MIN_VALUE;
            case "MAX" -> Integer.MAX_VALUE;
            default -> Integer.parseInt(word);
        };
    }
}
