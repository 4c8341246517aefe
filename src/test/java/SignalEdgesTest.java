/** The edges of promise 8 and of the sentences on signals. */
public final class SignalEdgesTest {
    private static final Class<?> ARGUMENT = IllegalArgumentException.class;
    private static final int LEAST = Integer.MIN_VALUE;
    private static final int MOST = Integer.MAX_VALUE;
    private static final int MASKABLE = 1023 - 8 - 32 - 64;

    public static void main(String[] args) {
        noSuchSignal();
        noSuchJob();
        toAnEndedProcess();
        toAnEndedOneOfTwo();
        continuingAReadyOne();
        continuingTakesPendingStopsAway();
        continuingLetsTheLeastAct();
        continuingPassesBlockedOnesOver();
        killAndStopActAtOnce();
        stoppingAStoppedOne();
        ignoredGoesBeforeBlocked();
        ignoredGoesBeforeStopped();
        blockedIsPending();
        stoppedIsPending();
        pendingTwiceIsPendingOnce();
        codesOfEndings();
        actingIsPendingNoMore();
        neverBlockedOrIgnored();
        Check.end();
    }

    private static JobTerminal running(int... opsAndNumbers) {
        JobTerminal x = new JobTerminal();
        Check.write(x, 0, opsAndNumbers);
        int last = opsAndNumbers.length / 2;
        x.program(0, last, 4, last);
        x.launch(0, -1, true);
        if (last > 0) {
            Check.same("steps", x.step(last), last);
        }
        return x;
    }

    private static void noSuchSignal() {
        Check.about("send: IllegalArgumentException: there is no such job or signal");
        JobTerminal x = running();
        int[] wrong = {LEAST, LEAST + 3, -32, -29, -1, 10, 11, 15, 32, 35, 64 + 3, 1 << 16, MOST};
        for (int signal : wrong) {
            Check.refuses("send(0, " + signal + ")", ARGUMENT, () -> x.send(0, signal));
        }
        Check.slot("nothing came", x, 0, 1, 0, 0, 0, 0, 0, 0, 0, 0);
        Check.same("the last one", x.send(0, 9), 2);
        Check.same("the first one", x.send(0, 0), 2);
        Check.same("is pending", x.process(0, 4), 1);
    }

    private static void noSuchJob() {
        Check.about("send: IllegalArgumentException: there is no such job or signal");
        JobTerminal x = running();
        int[] wrong = {LEAST, -4, -1, 1, 2, 3, 4, 5, MOST};
        for (int job : wrong) {
            for (int signal = -1; signal <= 10; signal++) {
                int sent = signal;
                Check.refuses("send(" + job + ", " + sent + ")", ARGUMENT, () -> x.send(job, sent));
            }
        }
        Check.slot("nothing came", x, 0, 1, 0, 0, 0, 0, 0, 0, 0, 0);
        x.send(0, 3);
        x.report();
        Check.refuses("a gone job", ARGUMENT, () -> x.send(0, 3));
    }

    private static void toAnEndedProcess() {
        Check.about("SENDING one to a process that has not ended");
        // ended by 0 while 1 and 7 are pending, so that 5 and 6 could change something
        JobTerminal x = running(6, 2 + 128 + 1);
        x.send(0, 1);
        x.send(0, 7);
        x.send(0, 3);
        for (int signal = 0; signal < 10; signal++) {
            Check.same("send " + signal, x.send(0, signal), 3);
            Check.slot("behind " + signal, x, 0, 3, 0, 1, 0, 2 + 128, 131, 0, 0, 131);
        }
        Check.same("report", x.report(), 3);
    }

    private static void toAnEndedOneOfTwo() {
        Check.about("A job is sent a signal: its processes are");
        JobTerminal x = new JobTerminal();
        Check.write(x, 0, 0, 7);
        Check.write(x, 1, 4, 0);
        x.launch(0, 1, false);
        x.step(1);
        Check.same("stops the other", x.send(0, 7), 2);
        Check.same("continues the other", x.send(0, 5), 1);
        Check.same("ends the other", x.send(0, 4), 3);
        Check.slot("the ended one stays", x, 0, 3, 0, 0, 0, 0, 0, 0, 0, 7);
        Check.same("code", x.process(1, 8), 132);
    }

    private static void continuingAReadyOne() {
        Check.about("5: of 6 .. 9 none is pending any more");
        JobTerminal x = running(6, MASKABLE);
        for (int signal = 0; signal < 10; signal++) {
            if ((MASKABLE & 1 << signal) != 0) {
                x.send(0, signal);
            }
        }
        Check.same("all are pending", x.process(0, 4), MASKABLE);
        Check.same("still ready", x.send(0, 5), 1);
        Check.same("0, 1, 2 and 4 are", x.process(0, 4), 23);
        Check.same("told", x.report(), -1);
    }

    private static void continuingTakesPendingStopsAway() {
        Check.about("5: of 6 .. 9 none is pending any more; if it is stopped it is ready");
        JobTerminal x = running();
        x.send(0, 6);
        x.send(0, 7);
        x.send(0, 8);
        x.send(0, 9);
        Check.same("pending", x.process(0, 4), 896);
        Check.same("ready, and not stopped by them", x.send(0, 5), 1);
        Check.same("none", x.process(0, 4), 0);
        Check.same("a second 5", x.send(0, 5), 1);
    }

    private static void continuingLetsTheLeastAct() {
        Check.about("its pending signals, the least first, ACT as long as it is ready");
        int[] ends = {0, 1, 2, 4};
        for (int least = 0; least < 4; least++) {
            JobTerminal x = running();
            x.send(0, 6);
            int pending = 0;
            for (int i = 3; i >= least; i--) {
                x.send(0, ends[i]);
                pending |= 1 << ends[i];
            }
            Check.same("pending", x.process(0, 4), pending);
            Check.same("continued", x.send(0, 5), 3);
            Check.same("code", x.process(0, 8), 128 + ends[least]);
            Check.same("the others wait", x.process(0, 4), pending & ~(1 << ends[least]));
        }
    }

    private static void continuingPassesBlockedOnesOver() {
        Check.about("ACT as long as .. they are not blocked");
        JobTerminal x = running(6, 1 + 2);
        x.send(0, 0);
        x.send(0, 1);
        x.send(0, 6);
        Check.same("none of them acts", x.send(0, 5), 1);
        Check.same("they wait", x.process(0, 4), 3);
        x.send(0, 6);
        x.send(0, 2);
        Check.same("2 is not blocked", x.send(0, 5), 3);
        Check.slot("ended by 2", x, 0, 3, 0, 1, 0, 3, 3, 0, 0, 130);
    }

    private static void killAndStopActAtOnce() {
        Check.about("3 and 6 act at once");
        JobTerminal x = running(6, -1, 7, -1);
        Check.same("6", x.send(0, 6), 2);
        Check.same("nothing is pending", x.process(0, 4), 0);
        Check.same("3, though it is stopped", x.send(0, 3), 3);
        Check.slot("ended", x, 0, 3, 0, 2, 0, 0, MASKABLE, MASKABLE, 0, 131);
    }

    private static void stoppingAStoppedOne() {
        Check.about("3 and 6 act at once");
        JobTerminal x = running();
        x.send(0, 7);
        x.report();
        Check.same("6 once more", x.send(0, 6), 2);
        Check.same("is not pending", x.process(0, 4), 0);
        Check.same("told", x.report(), -1);
        Check.same("one 5 continues it", x.send(0, 5), 1);
    }

    private static void ignoredGoesBeforeBlocked() {
        Check.about("Any other one: nothing, if it is ignored");
        JobTerminal x = running(6, MASKABLE, 7, MASKABLE);
        for (int signal = 0; signal < 10; signal++) {
            if ((MASKABLE & 1 << signal) != 0) {
                Check.same("send " + signal, x.send(0, signal), 1);
            }
        }
        Check.slot("nothing", x, 0, 1, 0, 2, 0, 0, MASKABLE, MASKABLE, 0, 0);
    }

    private static void ignoredGoesBeforeStopped() {
        Check.about("Any other one: nothing, if it is ignored");
        JobTerminal x = running(7, MASKABLE);
        x.send(0, 6);
        for (int signal = 0; signal < 10; signal++) {
            if ((MASKABLE & 1 << signal) != 0) {
                Check.same("send " + signal, x.send(0, signal), 2);
            }
        }
        Check.same("nothing", x.process(0, 4), 0);
        Check.same("nothing acts behind 5", x.send(0, 5), 1);
    }

    private static void blockedIsPending() {
        Check.about("else it is pending, if it is blocked");
        for (int signal = 0; signal < 10; signal++) {
            if ((MASKABLE & 1 << signal) == 0) {
                continue;
            }
            JobTerminal x = running(6, 1 << signal);
            Check.same("send " + signal, x.send(0, signal), 1);
            Check.slot("pending", x, 0, 1, 0, 1, 0, 1 << signal, 1 << signal, 0, 0, 0);
            // its neighbours act
            JobTerminal y = running(6, MASKABLE & ~(1 << signal));
            Check.same("send " + signal, y.send(0, signal), signal < 5 ? 3 : 2);
            Check.same("pending", y.process(0, 4), 0);
        }
    }

    private static void stoppedIsPending() {
        Check.about("else it is pending, if .. the process is stopped");
        JobTerminal x = running();
        x.send(0, 6);
        int pending = 0;
        int[] others = {9, 8, 7, 4, 2, 1, 0};
        for (int signal : others) {
            Check.same("send " + signal, x.send(0, signal), 2);
            pending |= 1 << signal;
            Check.same("pending", x.process(0, 4), pending);
        }
    }

    private static void pendingTwiceIsPendingOnce() {
        Check.about("sets of signals (bit s for signal s)");
        JobTerminal x = running(6, 128);
        x.send(0, 7);
        x.send(0, 7);
        Check.same("once", x.process(0, 4), 128);
        x.send(0, 5);
        Check.same("gone at once", x.process(0, 4), 0);
    }

    private static void codesOfEndings() {
        Check.about("0 .. 4: the process ends with the code 128 + the signal");
        for (int signal = 0; signal < 5; signal++) {
            JobTerminal x = running();
            x.send(0, signal);
            Check.slot("ended", x, 0, 3, 0, 0, 0, 0, 0, 0, 0, 128 + signal);
        }
    }

    private static void actingIsPendingNoMore() {
        Check.about("ACTING (it is pending no more)");
        // 3 and 6 are never pending; a blocked 7 that is let in is not pending when it has acted
        JobTerminal x = new JobTerminal();
        Check.write(x, 0, 6, 128, 9, 7, 6, 0, 4, 3);
        x.launch(0, -1, true);
        x.step(2);
        Check.same("pending", x.process(0, 4), 128);
        x.step(1);
        Check.slot("acted", x, 0, 2, 0, 3, 0, 0, 0, 0, 0, 0);
        Check.same("continued", x.send(0, 5), 1);
        // one that acts while the same one is not pending leaves the others
        JobTerminal y = running(6, 1);
        y.send(0, 0);
        y.send(0, 4);
        Check.slot("4 acted, 0 waits", y, 0, 3, 0, 1, 0, 1, 1, 0, 0, 132);
    }

    private static void neverBlockedOrIgnored() {
        Check.about("3, 5 and 6 are never blocked or ignored");
        int[] never = {3, 5, 6};
        for (int signal : never) {
            JobTerminal x = running(6, 1 << signal, 7, 1 << signal);
            Check.same("blocked", x.process(0, 5), 0);
            Check.same("ignored", x.process(0, 6), 0);
        }
        JobTerminal x = running(6, -1, 7, -1);
        Check.same("blocked", x.process(0, 5), MASKABLE);
        Check.same("ignored", x.process(0, 6), MASKABLE);
        x.send(0, 6);
        Check.same("stopped", x.process(0, 0), 2);
        x.send(0, 5);
        Check.same("continued", x.process(0, 0), 1);
        x.send(0, 3);
        Check.same("ended", x.process(0, 0), 3);
    }
}
