/** A fixed sequence of calls: the same number gives the same calls, in every run of a test. */
final class Sequence {
    /** A method with its arguments. */
    record Call(String method, int... args) {
        @Override
        public String toString() {
            StringBuilder text = new StringBuilder(method);
            for (int arg : args) {
                text.append(' ').append(arg);
            }
            return text.toString();
        }
    }

    // A network from which as much is taken as is added would stay nearly empty.
    private static final String[] TURNS = {
        "link", "link", "unlink", "change", "change", "change", "change",
        "want", "want", "want", "want", "want", "release", "release", "improve", "improve"};
    // Links first, or there would be nothing to place tunnels on.
    private static final int LINKS_FIRST = 12;
    private long seed;
    private int made = 0;
    // Few costs make ties, low capacities make tunnels drive each other out.
    private final int mostCost;
    private final int mostCapacity;
    private final int mostBandwidth;
    private final boolean colourful;

    Sequence(int number) {
        seed = 20261115L + number;
        for (int i = 0; i < 8; i++) {
            below(2);
        }
        mostCost = 1 + below(number % 3 == 0 ? 20 : 3);
        mostCapacity = 5 + below(96);
        mostBandwidth = 1 + below(mostCapacity);
        colourful = below(3) > 0;
    }

    private int below(int bound) {
        seed = seed * 6364136223846793005L + 1442695040888963407L;
        return (int) ((seed >>> 33) % bound);
    }

    private boolean isWild() {
        return below(25) == 0;
    }

    private int code() {
        int a = below(5);
        return isWild() ? below(45) - 5 : 6 * a + a + 1 + below(5 - a);
    }

    private int ends() {
        int a = below(6);
        return isWild() ? below(45) - 5 : 6 * a + (a + 1 + below(5)) % 6;
    }

    private int tunnel() {
        return isWild() ? below(12) - 2 : below(8);
    }

    private int costOfLink() {
        return isWild() ? below(25) - 2 : 1 + below(mostCost);
    }

    private int capacity() {
        return isWild() ? below(110) - 5 : below(mostCapacity + 1);
    }

    private int colours() {
        return isWild() ? below(12) - 2 : below(8) & below(8);
    }

    private int bandwidth() {
        return isWild() ? below(110) - 5 : 1 + below(mostBandwidth);
    }

    private int terms() {
        return isWild() ? below(40) - 4 : 8 * below(4) + (colourful ? below(8) & below(8) : 0);
    }

    Call next() {
        made++;
        if (made <= LINKS_FIRST) {
            return next("link");
        }
        String[] methods = below(3) == 0 ? Network.QUESTIONS : TURNS;
        return next(methods[below(methods.length)]);
    }

    Call next(String method) {
        return switch (method) {
            case "link" -> new Call(method, code(), costOfLink(), capacity());
            case "change" -> nextChange();
            case "look" -> new Call(method, code(), isWild() ? below(8) - 1 : below(5));
            case "room" -> new Call(method, code(), isWild() ? below(7) - 1 : below(4));
            case "want" -> new Call(method, tunnel(), ends(), bandwidth(), terms());
            case "node" -> new Call(method, tunnel(), isWild() ? below(9) - 1 : below(4));
            case "quote" -> new Call(method, ends(), bandwidth(), terms());
            case "widest", "flow" -> new Call(method, ends(), terms());
            case "release", "improve", "state", "cost" -> new Call(method, tunnel());
            case "groups" -> new Call(method);
            default -> new Call(method, code());
        };
    }

    private Call nextChange() {
        int what = isWild() ? below(7) - 1 : below(4);
        int value = what == 0 ? costOfLink() : what == 1 ? capacity() : what == 2 ? colours() : below(isWild() ? 4 : 2);
        return new Call("change", code(), what, value);
    }
}
