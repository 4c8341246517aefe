/** The example of README.md, with what its remarks say. */
public final class ReadmeTest {
    public static void main(String[] args) {
        JobTerminal x = new JobTerminal();
        x.program(0, 0, 2, 0);
        x.program(0, 1, 3, 0);
        x.program(0, 2, 4, 0);
        int job = x.launch(0, -1, false);
        Check.same("in the foreground", x.foreground(), job);
        x.key('h');
        x.key('i');
        Check.same("nothing can be read yet", x.step(64), 0);
        x.key((char) 10);
        Check.same("the line can be read now", x.held(1), 3);
        Check.same("9 steps", x.step(64), 9);
        Check.showed("once by the echo and once by the job", x, 'h', 'i', 13, 10, 'h', 'i', 13, 10);
        x.key((char) 3);
        Check.same("the job is done", x.job(job), 3);
        Check.same("told", x.report(), 4 * job + 3);
        Check.same("gone", x.job(job), JobTerminal.NONE);
        Check.end();
    }
}
