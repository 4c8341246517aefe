/** Promise 8: a job is sent a signal; and what each signal does. */
public final class SendTest {
    private static final Class<?> ARGUMENT = IllegalArgumentException.class;

    public static void main(String[] args) {
        toReadyProcesses();
        toStoppedProcesses();
        toBlockingProcesses();
        toIgnoringProcesses();
        toIgnoringStoppedProcesses();
        continuing();
        blockedSignalsStayBehindContinuing();
        bothProcesses();
        doneJobs();
        foregroundIsLeft();
        wrongCalls();
        Check.end();
    }

    private static void toReadyProcesses() {
        for (int signal = 0; signal < 10; signal++) {
            JobTerminal x = new JobTerminal();
            x.launch(0, -1, true);
            int due = signal < 5 ? 3 : signal == 5 ? 1 : 2;
            Check.same("send " + signal, x.send(0, signal), due);
            int code = signal < 5 ? 128 + signal : 0;
            Check.slot("signal " + signal, x, 0, due, 0, 0, 0, 0, 0, 0, 0, code);
            Check.same("report", x.report(), due == 1 ? -1 : due);
        }
    }

    private static void toStoppedProcesses() {
        for (int signal = 0; signal < 10; signal++) {
            JobTerminal x = new JobTerminal();
            x.launch(0, -1, true);
            x.send(0, 9);
            Check.same("report", x.report(), 2);
            int due = signal == 3 ? 3 : signal == 5 ? 1 : 2;
            int pending = signal == 3 || signal == 5 || signal == 6 ? 0 : 1 << signal;
            Check.same("send " + signal, x.send(0, signal), due);
            int code = signal == 3 ? 131 : 0;
            Check.slot("signal " + signal, x, 0, due, 0, 0, 0, pending, 0, 0, 0, code);
            Check.same("report", x.report(), due == 2 ? -1 : due);
        }
    }

    private static void toBlockingProcesses() {
        for (int signal = 0; signal < 10; signal++) {
            JobTerminal x = new JobTerminal();
            Check.write(x, 0, 6, -1);
            x.launch(0, -1, true);
            x.step(1);
            Check.same("blocked", x.process(0, 5), 1023 - 8 - 32 - 64);
            int due = signal == 3 ? 3 : signal == 6 ? 2 : 1;
            int pending = signal == 3 || signal == 5 || signal == 6 ? 0 : 1 << signal;
            Check.same("send " + signal, x.send(0, signal), due);
            Check.same("pending " + signal, x.process(0, 4), pending);
        }
    }

    private static void toIgnoringProcesses() {
        for (int signal = 0; signal < 10; signal++) {
            JobTerminal x = new JobTerminal();
            Check.write(x, 0, 7, -1);
            x.launch(0, -1, true);
            x.step(1);
            Check.same("ignored", x.process(0, 6), 1023 - 8 - 32 - 64);
            int due = signal == 3 ? 3 : signal == 6 ? 2 : 1;
            Check.same("send " + signal, x.send(0, signal), due);
            Check.same("pending " + signal, x.process(0, 4), 0);
        }
    }

    private static void toIgnoringStoppedProcesses() {
        JobTerminal x = new JobTerminal();
        Check.write(x, 0, 7, 2, 6, 6);
        x.launch(0, -1, true);
        x.step(2);
        x.send(0, 6);
        Check.same("an ignored one", x.send(0, 1), 2);
        Check.same("is not pending", x.process(0, 4), 0);
        Check.same("a blocked one", x.send(0, 2), 2);
        Check.same("is pending", x.process(0, 4), 4);
    }

    private static void continuing() {
        JobTerminal x = new JobTerminal();
        x.launch(0, -1, true);
        x.send(0, 7);
        for (int signal = 6; signal < 10; signal++) {
            x.send(0, signal);
        }
        Check.same("pending", x.process(0, 4), 896);
        Check.same("continued", x.send(0, 5), 1);
        Check.slot("continued", x, 0, 1, 0, 0, 0, 0, 0, 0, 0, 0);
        x.send(0, 8);
        x.send(0, 9);
        x.send(0, 4);
        x.send(0, 0);
        Check.same("pending", x.process(0, 4), 512 + 16 + 1);
        Check.same("continued", x.send(0, 5), 3);
        Check.slot("the least one ends it", x, 0, 3, 0, 0, 0, 16, 0, 0, 0, 128);
        Check.same("an ended one", x.send(0, 3), 3);
        Check.same("its code stays", x.process(0, 8), 128);
    }

    private static void blockedSignalsStayBehindContinuing() {
        JobTerminal x = new JobTerminal();
        Check.write(x, 0, 6, 2 + 256, 4, 1);
        x.launch(0, -1, true);
        x.step(1);
        x.send(0, 1);
        x.send(0, 8);
        Check.same("pending", x.process(0, 4), 258);
        Check.same("5 while ready", x.send(0, 5), 1);
        Check.same("8 is pending no more", x.process(0, 4), 2);
        x.send(0, 6);
        Check.same("continued", x.send(0, 5), 1);
        Check.same("1 is pending still", x.process(0, 4), 2);
        x.send(0, 6);
        x.send(0, 4);
        Check.same("continued", x.send(0, 5), 3);
        Check.slot("4 acts behind a blocked 1", x, 0, 3, 0, 1, 0, 2, 258, 0, 0, 132);
    }

    private static void bothProcesses() {
        JobTerminal x = new JobTerminal();
        Check.write(x, 0, 6, 16, 8, 1);
        x.launch(0, 1, true);
        x.launch(1, -1, true);
        x.step(1);
        Check.same("the first blocks it", x.send(0, 4), 1);
        Check.same("first", x.process(0, 4), 16);
        Check.same("second", x.process(1, 8), 132);
        Check.same("another job", x.process(2, 0), 1);
        Check.same("an ended one counts not", x.send(0, 6), 2);
        Check.same("second has ended", x.process(1, 0), 3);
        Check.same("both have", x.send(0, 3), 3);
        Check.same("codes", x.process(0, 8) * 1000 + x.process(1, 8), 131132);
    }

    private static void doneJobs() {
        JobTerminal x = new JobTerminal();
        x.launch(0, -1, true);
        x.step(1);
        for (int signal = 0; signal < 10; signal++) {
            Check.same("send " + signal, x.send(0, signal), 3);
        }
        Check.slot("unchanged", x, 0, 3, 0, 0, 0, 0, 0, 0, 0, 0);
    }

    private static void foregroundIsLeft() {
        JobTerminal x = new JobTerminal();
        x.launch(0, 0, false);
        Check.same("stop", x.send(0, 7), 2);
        Check.same("foreground", x.foreground(), -1);
        x.front(0);
        Check.same("kill", x.send(0, 3), 3);
        Check.same("foreground", x.foreground(), -1);
        Check.same("report", x.report(), 3);
    }

    private static void wrongCalls() {
        JobTerminal x = new JobTerminal();
        x.launch(0, -1, false);
        String before = Check.view(x);
        int[] jobs = {Integer.MIN_VALUE, -1, 1, 3, 4, Integer.MAX_VALUE};
        for (int job : jobs) {
            Check.refuses("send(" + job + ", 3)", ARGUMENT, () -> x.send(job, 3));
            Check.refuses("send(" + job + ", 10)", ARGUMENT, () -> x.send(job, 10));
        }
        int[] signals = {Integer.MIN_VALUE, -1, 10, 15, 16, 32, 35, Integer.MAX_VALUE};
        for (int signal : signals) {
            Check.refuses("send(0, " + signal + ")", ARGUMENT, () -> x.send(0, signal));
        }
        Check.same("view", Check.view(x), before);
        Check.same("report", x.report(), -1);
    }
}
