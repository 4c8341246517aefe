/** Promise 7: a job leaves the foreground and is continued. */
public final class BackTest {
    private static final Class<?> ARGUMENT = IllegalArgumentException.class;
    private static final Class<?> STATE = IllegalStateException.class;

    public static void main(String[] args) {
        foregroundJob();
        stoppedJobBehind();
        pendingSignalsAct();
        wrongCalls();
        Check.end();
    }

    private static void foregroundJob() {
        JobTerminal x = new JobTerminal();
        x.launch(0, -1, false);
        x.launch(0, -1, true);
        Check.same("back of another", x.back(1), 1);
        Check.same("foreground stays", x.foreground(), 0);
        Check.same("back", x.back(0), 1);
        Check.same("foreground", x.foreground(), -1);
        Check.same("told", x.report(), -1);
    }

    private static void stoppedJobBehind() {
        JobTerminal x = new JobTerminal();
        x.launch(0, 0, false);
        x.launch(0, -1, true);
        x.send(1, 6);
        Check.same("report", x.report(), 6);
        Check.same("back", x.back(1), 1);
        Check.same("foreground", x.foreground(), 0);
        Check.same("untold: it runs", x.report(), 5);
        x.send(0, 6);
        Check.same("foreground behind a stop", x.foreground(), -1);
        Check.same("back of a pair", x.back(0), 1);
        Check.same("first", x.process(0, 0), 1);
        Check.same("second", x.process(1, 0), 1);
        Check.same("foreground", x.foreground(), -1);
    }

    private static void pendingSignalsAct() {
        JobTerminal x = new JobTerminal();
        x.launch(0, -1, true);
        x.send(0, 6);
        x.send(0, 7);
        x.send(0, 8);
        x.send(0, 9);
        Check.same("pending", x.process(0, 4), 896);
        Check.same("back", x.back(0), 1);
        Check.same("none is pending", x.process(0, 4), 0);
        x.send(0, 6);
        x.send(0, 1);
        Check.same("back ends it", x.back(0), 3);
        Check.same("code", x.process(0, 8), 129);
        Check.same("report", x.report(), 3);
    }

    private static void wrongCalls() {
        JobTerminal x = new JobTerminal();
        x.launch(0, -1, false);
        x.launch(0, -1, true);
        x.send(1, 3);
        String before = Check.view(x);
        int[] wrong = {Integer.MIN_VALUE, -1, 2, 3, 4, Integer.MAX_VALUE};
        for (int job : wrong) {
            Check.refuses("back(" + job + ")", ARGUMENT, () -> x.back(job));
        }
        Check.refuses("back of a done one", STATE, () -> x.back(1));
        Check.same("view", Check.view(x), before);
        x.report();
        Check.refuses("back of a gone one", ARGUMENT, () -> x.back(1));
    }
}
