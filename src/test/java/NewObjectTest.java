/** Promise 1: no processes, no jobs, nothing typed. */
public final class NewObjectTest {
    public static void main(String[] args) {
        JobTerminal x = new JobTerminal();
        Check.same("NONE", JobTerminal.NONE, -1);
        Check.same("foreground()", x.foreground(), -1);
        for (int job = 0; job < 4; job++) {
            Check.same("job(" + job + ")", x.job(job), -1);
            Check.same("held(" + (job + 2) + ")", x.held(job + 2), -1);
        }
        for (int slot = 0; slot < 8; slot++) {
            Check.slot("new", x, slot, -1, -1, -1, -1, -1, -1, -1, -1, -1);
        }
        Check.same("held(0)", x.held(0), 0);
        Check.same("held(1)", x.held(1), 0);
        Check.same("shown()", x.shown(), 0);
        Check.same("screen(0)", x.screen(0), -1);
        Check.same("report()", x.report(), -1);
        Check.same("tick()", x.tick(), 0);
        Check.same("step(64)", x.step(64), 0);
        Check.same("flags(47)", x.flags(47), 47);
        objectsAreApart();
        linesAreZeroAtFirst();
        Check.end();
    }

    private static void objectsAreApart() {
        JobTerminal x = new JobTerminal();
        JobTerminal y = new JobTerminal();
        Check.type(x, 'a');
        x.program(0, 0, 0, 9);
        x.launch(0, -1, false);
        Check.same("job(0) of the other object", y.job(0), -1);
        Check.same("held(0) of the other object", y.held(0), 0);
        y.launch(0, -1, false);
        y.step(1);
        Check.same("code of the other object", y.process(0, 8), 0);
    }

    private static void linesAreZeroAtFirst() {
        JobTerminal x = new JobTerminal();
        for (int p = 0; p < 4; p++) {
            x.launch(p, -1, true);
        }
        Check.same("step(64) of four empty programs", x.step(64), 4);
        for (int slot = 0; slot < 4; slot++) {
            Check.slot("empty program", x, slot, 3, slot, 0, 0, 0, 0, 0, 0, 0);
        }
    }
}
