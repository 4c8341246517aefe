/** Promise 2: a line becomes an op and a number; false when there is no such line. */
public final class ProgramTest {
    public static void main(String[] args) {
        everyLineOfEveryProgram();
        wrongLines();
        changesUnderARunningProcess();
        unnamedOps();
        Check.end();
    }

    private static void everyLineOfEveryProgram() {
        for (int p = 0; p < 4; p++) {
            JobTerminal x = new JobTerminal();
            for (int line = 0; line < 16; line++) {
                Check.same("program(" + p + ", " + line + ")", x.program(p, line, 11, 1 << line), true);
            }
            x.launch(p, -1, true);
            Check.same("step(16)", x.step(16), 16);
            Check.slot("behind all lines", x, 0, 1, 0, 16, 65535);
            Check.same("step at line 16", x.step(5), 1);
            Check.slot("ended at line 16", x, 0, 3, 0, 16, 65535, 0, 0, 0, 0, 0);
            for (int other = 0; other < 4; other++) {
                if (other != p) {
                    x.report();
                    x.launch(other, -1, true);
                    Check.same("another program", x.step(64), 1);
                    Check.same("its register", x.process(0, 3), 0);
                }
            }
        }
    }

    private static void wrongLines() {
        int[] wrong = {Integer.MIN_VALUE, -1, 4, 5, 16, Integer.MAX_VALUE};
        for (int p : wrong) {
            JobTerminal x = new JobTerminal();
            Check.same("program(" + p + ", 0)", x.program(p, 0, 1, 65), false);
            nothingIsWritten(x);
        }
        int[] wrongLine = {Integer.MIN_VALUE, -16, -1, 16, 17, 32, 64, Integer.MAX_VALUE};
        for (int line : wrongLine) {
            for (int p = 0; p < 4; p++) {
                JobTerminal x = new JobTerminal();
                Check.same("program(" + p + ", " + line + ")", x.program(p, line, 1, 65), false);
                nothingIsWritten(x);
            }
        }
    }

    private static void nothingIsWritten(JobTerminal x) {
        for (int p = 0; p < 4; p++) {
            x.launch(p, -1, true);
        }
        Check.same("steps of four empty programs", x.step(64), 4);
        Check.same("shown()", x.shown(), 0);
    }

    private static void changesUnderARunningProcess() {
        JobTerminal x = new JobTerminal();
        Check.write(x, 2, 10, 5, 4, 0);
        x.launch(2, -1, false);
        x.step(2);
        Check.write(x, 2, 10, 6);
        x.step(1);
        Check.same("register of the new line", x.process(0, 3), 6);
        Check.write(x, 2, 10, 6, 0, 77);
        x.step(9);
        Check.same("code of the new line", x.process(0, 8), 77);
    }

    private static void unnamedOps() {
        int[] ops = {12, 13, 16, 255, 256, 257, 1 << 16, -1, -11, Integer.MIN_VALUE, Integer.MAX_VALUE};
        for (int op : ops) {
            JobTerminal x = new JobTerminal();
            Check.same("program of op " + op, x.program(1, 0, op, 256 + 44), true);
            x.launch(1, -1, false);
            Check.same("step of op " + op, x.step(3), 1);
            Check.slot("op " + op, x, 0, 3, 0, 0, 0, 0, 0, 0, 0, 44);
        }
    }
}
