/** "An object is used for at most 512 calls after it has been made; what later calls answer is free." */
public final class LimitTest {
    private static final int RUNS_OF_EACH = 40;
    private static final int LATER_CALLS = 20000;
    private static int wrong = 0;

    public static void main(String[] args) {
        for (String method : Network.CHANGERS) {
            lastCall(method);
        }
        for (String method : Network.QUESTIONS) {
            lastCall(method);
        }
        sameCallTillTheLast();
        onlyRefusedTillTheLast();
        settlingsTillTheLast();
        twoObjectsAreApart();
        laterCallsEnd();
        System.out.println(wrong == 0 ? "all answers are as due" : wrong + " answers are not as due");
        if (wrong != 0) {
            System.exit(1);
        }
    }

    private static void due(String what, int got, int want) {
        if (got != want) {
            wrong++;
            System.out.println(what + ": answered " + got + ", due is " + want);
        }
    }

    private static void dueSame(String what, Program x, Model model, Sequence.Call call) {
        due(what + ": " + call, x.call(call.method(), call.args()), model.call(call.method(), call.args()));
    }

    private static void dueLast(Program x) {
        due("calls made in all", x.calls(), Program.MOST_CALLS);
    }

    /** The method as the 512th call, after 511 others. */
    private static void lastCall(String method) {
        for (int run = 0; run < RUNS_OF_EACH; run++) {
            Program x = new Program();
            Model model = new Model();
            Sequence sequence = new Sequence(100000 + run);
            for (int i = 1; i < Program.MOST_CALLS; i++) {
                dueSame("call " + i, x, model, sequence.next());
            }
            dueSame("call 512", x, model, sequence.next(method));
            dueLast(x);
        }
    }

    private static void sameCallTillTheLast() {
        Program x = new Program();
        due("link", x.link(1, 1, 10), 0);
        for (int i = 2; i < Program.MOST_CALLS; i += 2) {
            due("want, call " + i, x.want(7, 1, 10, 0), 1);
            due("release, call " + (i + 1), x.release(7), 0);
        }
        due("want, call 512", x.want(7, 6, 10, 31), 1);
        dueLast(x);
    }

    private static void onlyRefusedTillTheLast() {
        Program x = new Program();
        for (int i = 1; i < Program.MOST_CALLS - 1; i++) {
            due("want, call " + i, x.want(i % 2 == 0 ? 8 : -1, 1, 1, 0), TunnelNetwork.BAD);
        }
        due("link, call 511", x.link(1, 1, 1), 0);
        due("look, call 512", x.look(1, 1), 1);
        dueLast(x);
    }

    /** A settling in every call, and in every other one all tunnels move. */
    private static void settlingsTillTheLast() {
        Program x = new Program();
        due("link", x.link(1, 1, 8), 0);
        due("link", x.link(2, 1, 100), 0);
        due("link", x.link(8, 1, 100), 0);
        for (int t = 0; t < 8; t++) {
            due("want " + t, x.want(t, 1, 1, 8 * (t % 4)), 1);
        }
        for (int i = 12; i < Program.MOST_CALLS; i += 4) {
            due("0-1 down, call " + i, x.change(1, 3, 0), 8);
            due("0-1 up, call " + (i + 1), x.change(1, 3, 1), 8);
            due("1-2 down, call " + (i + 2), x.change(8, 3, 0), 8);
            due("1-2 up, call " + (i + 3), x.change(8, 3, 1), 8);
        }
        due("over, call 512", x.over(1), 8);
        dueLast(x);
    }

    private static void twoObjectsAreApart() {
        Program one = new Program();
        Program other = new Program();
        for (int i = 1; i < Program.MOST_CALLS; i++) {
            one.link(i % 36, 1, 100);
        }
        due("one, call 512", one.groups(), 1);
        due("other, call 1", other.groups(), 6);
    }

    /** Their answers are free, but each must come. */
    private static void laterCallsEnd() {
        Program x = new Program(LATER_CALLS);
        Sequence sequence = new Sequence(7);
        for (int i = 1; i <= LATER_CALLS; i++) {
            Sequence.Call call = sequence.next();
            x.call(call.method(), call.args());
        }
    }
}
