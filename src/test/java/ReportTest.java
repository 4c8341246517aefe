/** Promise 9: the least untold job is told, and gone if it is done. */
public final class ReportTest {
    public static void main(String[] args) {
        leastFirst();
        presentStateIsTold();
        changeAndBackInOneCall();
        slotsAreFree();
        partlyEndedJobsAreTold();
        Check.end();
    }

    private static void leastFirst() {
        JobTerminal x = new JobTerminal();
        for (int i = 0; i < 4; i++) {
            x.launch(0, -1, true);
        }
        x.send(3, 3);
        x.send(1, 6);
        x.send(2, 6);
        Check.same("1 is stopped", x.report(), 6);
        x.send(0, 6);
        Check.same("0 is stopped", x.report(), 2);
        Check.same("2 is stopped", x.report(), 10);
        Check.same("3 is done", x.report(), 15);
        Check.same("none", x.report(), -1);
        Check.same("stopped ones stay", x.job(0) + x.job(1) + x.job(2), 6);
        Check.same("3 is gone", x.job(3), -1);
    }

    private static void presentStateIsTold() {
        JobTerminal x = new JobTerminal();
        x.launch(0, -1, true);
        x.send(0, 6);
        x.send(0, 5);
        Check.same("it runs again, untold", x.report(), 1);
        Check.same("told", x.report(), -1);
        x.send(0, 6);
        x.send(0, 3);
        Check.same("done", x.report(), 3);
        Check.same("told once", x.report(), -1);
    }

    private static void changeAndBackInOneCall() {
        JobTerminal x = new JobTerminal();
        Check.write(x, 0, 7, 1, 4, 1);
        x.launch(0, -1, false);
        x.step(1);
        Check.same("hang", x.hang(), true);
        Check.same("as before", x.job(0), 1);
        Check.same("told", x.report(), -1);
        Check.same("foreground", x.foreground(), 0);
    }

    private static void slotsAreFree() {
        JobTerminal x = new JobTerminal();
        x.launch(0, 0, true);
        x.launch(1, -1, true);
        x.send(0, 3);
        Check.same("slots till then", x.process(0, 0) + x.process(1, 0), 6);
        Check.same("pipe till then", x.held(2), 0);
        Check.same("report", x.report(), 3);
        Check.slot("first", x, 0, -1, -1, -1, -1, -1, -1, -1, -1, -1);
        Check.slot("second", x, 1, -1, -1, -1, -1, -1, -1, -1, -1, -1);
        Check.same("pipe", x.held(2), -1);
        Check.same("the other job", x.process(2, 1), 1);
        Check.same("its slot", x.launch(2, -1, true), 0);
        Check.same("slot 0", x.process(0, 1), 0);
    }

    private static void partlyEndedJobsAreTold() {
        JobTerminal x = new JobTerminal();
        Check.write(x, 1, 4, 0);
        x.launch(0, 1, true);
        x.step(1);
        Check.same("first has ended", x.process(0, 0), 3);
        Check.same("still running", x.report(), -1);
        x.send(0, 6);
        Check.same("stopped", x.report(), 2);
        Check.same("its slots stay", x.process(0, 0), 3);
        x.send(0, 3);
        Check.same("done", x.report(), 3);
    }
}
