/** The edges of promise 12, and of what reads and writes when the terminal hangs. */
public final class HangEdgesTest {
    public static void main(String[] args) {
        nothingThere();
        allFull();
        twice();
        foregroundIsSentBoth();
        foregroundThatWithstands();
        onlyStoppedOnesAreSent();
        aDoneOneStays();
        halfStoppedOnesAreNot();
        fromNowOn();
        keysGoOn();
        readingWhenItHangs();
        writingWhenItHangs();
        Check.end();
    }

    private static JobTerminal withLoop() {
        JobTerminal x = new JobTerminal();
        Check.write(x, 0, 4, 0);
        return x;
    }

    private static void nothingThere() {
        Check.about("the edit and the queue become empty; the job in the foreground is sent 0 and 5");
        JobTerminal x = new JobTerminal();
        Check.same("hang", x.hang(), true);
        Check.same("edit", x.held(0), 0);
        Check.same("queue", x.held(1), 0);
        Check.same("none", x.report(), -1);
    }

    private static void allFull() {
        Check.about("the edit and the queue become empty");
        JobTerminal x = new JobTerminal();
        Check.typeTimes(x, 40, 4);
        Check.typeTimes(x, 20, 'a');
        Check.same("hang", x.hang(), true);
        Check.same("edit", x.held(0), 0);
        Check.same("queue", x.held(1), 0);
        Check.same("nothing is rubbed out", x.shown(), 20);
        Check.typeTimes(x, 40, 4);
        Check.typeTimes(x, 20, 'b');
        Check.same("room for 20", x.held(0), 20);
        Check.same("and for 40", x.held(1), 40);
    }

    private static void twice() {
        Check.about("False when it hangs");
        JobTerminal x = withLoop();
        Check.same("once", x.hang(), true);
        Check.same("twice", x.hang(), false);
        x.launch(0, -1, false);
        x.launch(0, -1, true);
        x.send(1, 6);
        Check.type(x, 'a', 10, 'b');
        Check.same("again", x.hang(), false);
        Check.same("the job before", x.job(0), 1);
        Check.same("a stopped job", x.job(1), 2);
        Check.same("nothing is pending", x.process(1, 4), 0);
        Check.same("edit", x.held(0), 1);
        Check.same("queue", x.held(1), 2);
    }

    private static void foregroundIsSentBoth() {
        Check.about("the job in the foreground is sent 0 and 5");
        JobTerminal x = new JobTerminal();
        Check.write(x, 0, 9, 6, 4, 1);
        Check.write(x, 1, 7, 1, 4, 1);
        x.launch(0, 1, false);
        x.step(2);
        Check.same("the first is stopped", x.process(0, 0), 2);
        x.hang();
        Check.same("0 acts behind 5", x.process(0, 8), 128);
        Check.same("the second ignores it", x.process(1, 0), 1);
        Check.same("still before", x.foreground(), 0);
        Check.same("told", x.report(), -1);
    }

    private static void foregroundThatWithstands() {
        Check.about("the job in the foreground is sent 0 and 5");
        JobTerminal x = new JobTerminal();
        Check.write(x, 0, 6, 1 + 128, 9, 7, 4, 2);
        x.launch(0, -1, false);
        x.step(2);
        x.hang();
        Check.same("0 is pending, 7 no more", x.process(0, 4), 1);
        Check.same("still before", x.foreground(), 0);
        JobTerminal y = withLoop();
        y.launch(0, -1, false);
        y.hang();
        Check.same("ended", y.job(0), 3);
        Check.same("not before", y.foreground(), -1);
        Check.same("untold", y.report(), 3);
    }

    private static void onlyStoppedOnesAreSent() {
        Check.about("then each other job that is stopped is");
        JobTerminal x = withLoop();
        for (int job = 0; job < 4; job++) {
            x.launch(0, -1, true);
        }
        x.send(0, 6);
        x.send(3, 9);
        x.report();
        x.report();
        x.hang();
        int[] due = {3, 1, 1, 3};
        for (int job = 0; job < 4; job++) {
            Check.same("job " + job, x.job(job), due[job]);
        }
        Check.same("untold", x.report(), 3);
        Check.same("untold", x.report(), 15);
        Check.same("told", x.report(), -1);
    }

    private static void aDoneOneStays() {
        Check.about("then each other job that is stopped is");
        JobTerminal x = withLoop();
        x.launch(0, -1, true);
        x.send(0, 4);
        x.hang();
        Check.slot("ended by 4", x, 0, 3, 0, 0, 0, 0, 0, 0, 0, 132);
    }

    private static void halfStoppedOnesAreNot() {
        Check.about("then each other job that is stopped is");
        JobTerminal x = new JobTerminal();
        Check.write(x, 0, 9, 6, 4, 1);
        Check.write(x, 1, 4, 0);
        Check.write(x, 2, 0, 0);
        x.launch(0, 1, true);
        x.launch(2, 0, true);
        x.step(4);
        Check.same("one of two is stopped", x.job(0), 1);
        Check.same("one ended, one is stopped", x.job(1), 2);
        x.hang();
        Check.slot("not sent", x, 0, 2, 0, 1, 0, 0, 0, 0, 0, 0);
        Check.same("sent", x.process(3, 8), 128);
        Check.same("done", x.job(1), 3);
    }

    private static void fromNowOn() {
        Check.about("The terminal HANGS from now on");
        // a job that is stopped or comes to the foreground later is sent nothing
        JobTerminal x = withLoop();
        x.hang();
        x.launch(0, -1, false);
        Check.same("runs", x.job(0), 1);
        x.send(0, 6);
        Check.same("continues", x.front(0), 1);
        x.step(9);
        Check.same("nothing is pending", x.process(0, 4), 0);
    }

    private static void keysGoOn() {
        Check.about("A KEY; false when it is none, or is refused");
        JobTerminal x = withLoop();
        x.hang();
        x.launch(0, -1, false);
        Check.type(x, 'a', 'b', 127, 10);
        Check.same("queue", x.held(1), 2);
        Check.showed("echo", x, 'a', 'b', 8, 32, 8, 13, 10);
        Check.type(x, 3);
        Check.same("signal", x.process(0, 8), 129);
    }

    private static void readingWhenItHangs() {
        Check.about("READING from the terminal: when it HANGS, -1");
        JobTerminal x = new JobTerminal();
        Check.write(x, 0, 2, 0, 4, 0);
        Check.write(x, 1, 6, 256, 2, 0, 4, 1);
        x.hang();
        Check.type(x, 'a', 10);
        x.launch(0, -1, false);
        x.launch(0, -1, true);
        x.launch(1, -1, true);
        Check.same("none waits, fails or is stopped", x.step(30), 30);
        for (int slot = 0; slot < 3; slot++) {
            Check.same("register", x.process(slot, 3), -1);
            Check.same("state", x.process(slot, 0), 1);
        }
        Check.same("the queue stays", x.held(1), 2);
    }

    private static void writingWhenItHangs() {
        Check.about("WRITING to the terminal: when it hangs, the op fails");
        for (int guard = 0; guard < 2; guard++) {
            JobTerminal x = new JobTerminal();
            Check.write(x, 0, 1, 65, 0, 1);
            x.flags(47 + 16 * guard);
            x.hang();
            x.launch(0, -1, false);
            x.launch(0, -1, true);
            Check.same("fails", x.step(9), 1);
            Check.same("fails", x.step(9), 1);
            Check.slot("before", x, 0, 1, 0, 1, -2, 0, 0, 0, 0, 0);
            Check.slot("behind", x, 1, 1, 1, 1, -2, 0, 0, 0, 0, 0);
            Check.same("shown", x.shown(), 0);
        }
    }
}
