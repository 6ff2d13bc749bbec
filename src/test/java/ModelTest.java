/** Long runs of calls on TunnelNetwork beside the model, each as long as an object may be used. */
public final class ModelTest {
    private static final int RUNS = 4000;
    private static int wrong = 0;

    public static void main(String[] args) {
        for (int run = 0; run < RUNS && wrong == 0; run++) {
            oneRun(run);
        }
        System.out.println(wrong == 0 ? "all answers are as due" : wrong + " answers are not as due");
        if (wrong != 0) {
            System.exit(1);
        }
    }

    private static void oneRun(int run) {
        Program x = new Program();
        Model model = new Model();
        Sequence sequence = new Sequence(run);
        for (int i = 1; i <= Program.MOST_CALLS; i++) {
            Sequence.Call call = sequence.next();
            int got = x.call(call.method(), call.args());
            int want = model.call(call.method(), call.args());
            if (got != want) {
                wrong++;
                System.out.println("run " + run + ", call " + i + ": " + call
                    + " answered " + got + ", due is " + want);
            }
        }
    }
}
