/** Promise 6: a job comes to the foreground and is continued. */
public final class FrontTest {
    private static final Class<?> ARGUMENT = IllegalArgumentException.class;
    private static final Class<?> STATE = IllegalStateException.class;

    public static void main(String[] args) {
        stoppedJob();
        runningJob();
        ownForeground();
        pendingSignalsAct();
        pairWithOneStopped();
        wrongCalls();
        Check.end();
    }

    private static void stoppedJob() {
        JobTerminal x = new JobTerminal();
        x.launch(0, -1, true);
        Check.same("stop", x.send(0, 6), 2);
        Check.same("report", x.report(), 2);
        Check.same("front", x.front(0), 1);
        Check.same("foreground", x.foreground(), 0);
        Check.same("state", x.process(0, 0), 1);
        Check.same("untold: it runs", x.report(), 1);
        Check.same("report", x.report(), -1);
    }

    private static void runningJob() {
        JobTerminal x = new JobTerminal();
        x.launch(0, -1, true);
        x.launch(0, -1, true);
        Check.same("front", x.front(1), 1);
        Check.same("foreground", x.foreground(), 1);
        Check.same("told", x.report(), -1);
    }

    private static void ownForeground() {
        JobTerminal x = new JobTerminal();
        Check.write(x, 0, 6, 128, 9, 7, 4, 2);
        x.launch(0, -1, false);
        x.step(2);
        Check.same("pending", x.process(0, 4), 128);
        Check.same("front again", x.front(0), 1);
        Check.same("pending no more", x.process(0, 4), 0);
        Check.same("foreground", x.foreground(), 0);
    }

    private static void pendingSignalsAct() {
        JobTerminal x = new JobTerminal();
        x.launch(0, -1, true);
        x.send(0, 6);
        x.send(0, 4);
        x.send(0, 2);
        Check.same("pending", x.process(0, 4), 20);
        Check.same("front", x.front(0), 3);
        Check.same("the least acted", x.process(0, 8), 130);
        Check.same("the other is pending", x.process(0, 4), 16);
        Check.same("done, so not in the foreground", x.foreground(), -1);
        Check.same("report", x.report(), 3);
    }

    private static void pairWithOneStopped() {
        JobTerminal x = new JobTerminal();
        Check.write(x, 0, 9, 6);
        Check.write(x, 1, 4, 0);
        x.launch(0, 1, true);
        x.step(1);
        Check.same("first", x.process(0, 0), 2);
        Check.same("still running", x.job(0), 1);
        Check.same("front", x.front(0), 1);
        Check.same("first goes on", x.process(0, 0), 1);
        Check.same("told", x.report(), -1);
    }

    private static void wrongCalls() {
        JobTerminal x = new JobTerminal();
        x.launch(0, -1, false);
        x.launch(0, -1, true);
        x.launch(0, -1, true);
        x.send(1, 6);
        x.send(2, 3);
        String before = Check.view(x);
        int[] wrong = {Integer.MIN_VALUE, -1, 3, 4, 7, Integer.MAX_VALUE};
        for (int job : wrong) {
            Check.refuses("front(" + job + ")", ARGUMENT, () -> x.front(job));
        }
        Check.refuses("another is there", STATE, () -> x.front(1));
        Check.refuses("another is there, and done", STATE, () -> x.front(2));
        Check.same("view", Check.view(x), before);
        x.back(0);
        before = Check.view(x);
        Check.refuses("done", STATE, () -> x.front(2));
        Check.same("view", Check.view(x), before);
        Check.same("front(1)", x.front(1), 1);
        Check.same("report of 1", x.report(), 5);
        Check.same("report of 2", x.report(), 11);
        Check.refuses("gone", ARGUMENT, () -> x.front(2));
    }
}
