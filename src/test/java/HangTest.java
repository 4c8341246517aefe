/** Promise 12: the terminal hangs. */
public final class HangTest {
    public static void main(String[] args) {
        typedIsGone();
        foregroundJobs();
        otherJobs();
        everyStoppedJob();
        hangingTwice();
        readingAndWriting();
        Check.end();
    }

    private static void typedIsGone() {
        JobTerminal x = new JobTerminal();
        Check.type(x, 'a', 10, 'b');
        Check.same("hang", x.hang(), true);
        Check.same("edit", x.held(0), 0);
        Check.same("queue", x.held(1), 0);
        Check.same("shown", x.shown(), 4);
        Check.type(x, 'c', 10);
        Check.same("keys go on", x.held(1), 2);
    }

    private static void foregroundJobs() {
        JobTerminal x = new JobTerminal();
        x.launch(0, 0, false);
        Check.same("hang", x.hang(), true);
        Check.same("both are sent 0", x.process(0, 8) + x.process(1, 8), 256);
        Check.same("foreground", x.foreground(), -1);
        Check.same("report", x.report(), 3);

        JobTerminal y = new JobTerminal();
        Check.write(y, 0, 6, 129, 9, 7, 4, 2);
        y.launch(0, -1, false);
        y.step(2);
        Check.same("pending", y.process(0, 4), 128);
        y.hang();
        Check.same("0 is pending, 7 is not behind 5", y.process(0, 4), 1);
        Check.same("foreground", y.foreground(), 0);
        Check.same("job", y.job(0), 1);

        // a stopped process in a running job of the foreground: 0 is pending until 5 comes
        JobTerminal z = new JobTerminal();
        Check.write(z, 0, 9, 6);
        Check.write(z, 1, 7, 1, 4, 1);
        z.launch(0, 1, false);
        z.step(2);
        Check.same("first is stopped", z.process(0, 0), 2);
        z.hang();
        Check.slot("first", z, 0, 3, 0, 1, 0, 0, 0, 0, 0, 128);
        Check.same("second ignores it", z.process(1, 0), 1);
        Check.same("foreground", z.foreground(), 0);
    }

    private static void otherJobs() {
        JobTerminal x = new JobTerminal();
        Check.write(x, 1, 7, 1, 4, 1);
        Check.write(x, 2, 9, 6, 4, 0);
        Check.write(x, 3, 4, 0);
        x.launch(3, -1, true);
        x.launch(1, -1, true);
        x.launch(3, -1, true);
        x.launch(2, 3, true);
        x.step(5);
        x.send(1, 6);
        x.send(2, 6);
        while (x.report() != -1) {
            x.shown();
        }
        Check.same("slot 3 is stopped", x.process(3, 0), 2);
        x.hang();
        Check.same("a running one is not sent 0", x.job(0), 1);
        Check.same("a stopped one that ignores it", x.job(1), 1);
        Check.same("a stopped one", x.job(2), 3);
        Check.same("its code", x.process(2, 8), 128);
        Check.same("one that runs by half", x.job(3), 1);
        Check.slot("its stopped process", x, 3, 2, 3, 1, 0, 0);
        Check.same("told", x.report(), 5);
        Check.same("told", x.report(), 11);
        Check.same("told", x.report(), -1);
    }

    private static void everyStoppedJob() {
        JobTerminal x = new JobTerminal();
        for (int job = 0; job < 4; job++) {
            x.launch(0, 0, true);
            x.send(job, 6);
        }
        x.hang();
        for (int job = 0; job < 4; job++) {
            Check.same("job " + job, x.job(job), 3);
        }
    }

    private static void hangingTwice() {
        JobTerminal x = new JobTerminal();
        x.hang();
        Check.write(x, 0, 4, 0);
        x.launch(0, -1, false);
        x.launch(0, -1, true);
        x.send(1, 6);
        Check.type(x, 'a', 10, 'b');
        String before = Check.view(x);
        Check.same("hang again", x.hang(), false);
        Check.same("view", Check.view(x), before);
    }

    private static void readingAndWriting() {
        JobTerminal x = new JobTerminal();
        Check.write(x, 0, 2, 0, 1, 65, 0, 9);
        Check.write(x, 1, 10, 66, 3, 0, 0, 8);
        x.hang();
        Check.type(x, 'a', 10);
        x.flags(63);
        x.launch(0, -1, false);
        x.launch(0, -1, true);
        Check.same("reads", x.step(2), 2);
        Check.same("-1 before", x.process(0, 3), -1);
        Check.same("-1 behind", x.process(1, 3), -1);
        Check.same("queue stays", x.held(1), 2);
        int shown = x.shown();
        Check.same("a write fails", x.step(5), 1);
        Check.slot("failed before", x, 0, 1, 0, 2, -2);
        Check.same("a write fails", x.step(5), 1);
        Check.slot("failed behind, not stopped", x, 1, 1, 1, 2, -2);
        Check.same("nothing shown", x.shown(), shown);
        x.step(5);
        x.report();
        x.report();
        x.launch(1, -1, false);
        Check.same("op 3 fails", x.step(5), 2);
        Check.same("register", x.process(0, 3), -2);
        Check.same("then it ends", x.step(5), 1);

        // the pipe knows nothing of it
        JobTerminal y = new JobTerminal();
        Check.write(y, 0, 1, 65, 4, 0);
        Check.write(y, 1, 2, 0, 4, 0);
        y.hang();
        y.launch(0, 1, true);
        Check.same("through the pipe", y.step(20), 20);
        Check.same("register", y.process(1, 3), 65);
    }
}
