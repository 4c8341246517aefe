/** The edges of promises 1 and 13 to 18. */
public final class LookingEdgesTest {
    private static final int LEAST = Integer.MIN_VALUE;
    private static final int MOST = Integer.MAX_VALUE;
    private static final int[] WRONG = {LEAST, LEAST + 1, LEAST + 2, LEAST + 9, -100, -9, -2, -1, 1 << 30,
        MOST - 1, MOST};

    public static void main(String[] args) {
        nothingAtFirst();
        foregroundOfNone();
        processOfNoSlot();
        processOfNoNumber();
        codeOfOneThatHasNotEnded();
        shownFromZero();
        screenOfNothing();
        screenUpToWhatWasShown();
        screenOfTheLatestHundred();
        screenBeyondNinetyNine();
        heldOfOtherNumbers();
        heldOfNoJobOrPipe();
        heldUpToFull();
        Check.end();
    }

    private static JobTerminal showing(int codes) {
        JobTerminal x = new JobTerminal();
        Check.write(x, 0, 3, 0, 11, 1, 4, 0);
        x.flags(0);
        x.launch(0, -1, true);
        for (int i = 0; i < codes; i++) {
            x.step(3);
        }
        return x;
    }

    private static void nothingAtFirst() {
        Check.about("No processes, no jobs, nothing typed");
        JobTerminal x = new JobTerminal();
        for (int slot = 0; slot < 8; slot++) {
            Check.same("slot " + slot, x.process(slot, 0), -1);
        }
        for (int job = 0; job < 4; job++) {
            Check.same("job " + job, x.job(job), -1);
        }
        Check.same("edit", x.held(0), 0);
        Check.same("queue", x.held(1), 0);
        Check.same("shown", x.shown(), 0);
        Check.same("steps", x.step(1), 0);
        Check.same("ticks", x.tick(), 0);
    }

    private static void foregroundOfNone() {
        Check.about("The job in the foreground; NONE when there is none");
        JobTerminal x = new JobTerminal();
        Check.write(x, 0, 4, 0);
        Check.same("no job", x.foreground(), -1);
        x.launch(0, -1, true);
        Check.same("one behind", x.foreground(), -1);
        x.launch(0, -1, true);
        x.launch(0, -1, true);
        x.launch(0, -1, false);
        Check.same("the last one", x.foreground(), 3);
        x.back(3);
        Check.same("none", x.foreground(), -1);
        x.front(0);
        Check.same("the first one", x.foreground(), 0);
        x.send(0, 3);
        Check.same("none", x.foreground(), -1);
    }

    private static void processOfNoSlot() {
        Check.about("NONE when there is none");
        JobTerminal x = new JobTerminal();
        Check.write(x, 0, 4, 0);
        x.launch(0, -1, false);
        for (int slot : WRONG) {
            for (int which = 0; which < 9; which++) {
                Check.same("process(" + slot + ", " + which + ")", x.process(slot, which), -1);
            }
        }
        int[] free = {1, 7, 8, 9, 16};
        for (int slot : free) {
            for (int which = 0; which < 9; which++) {
                Check.same("process(" + slot + ", " + which + ")", x.process(slot, which), -1);
            }
        }
    }

    private static void processOfNoNumber() {
        Check.about("NONE when .. which is not 0 .. 8");
        JobTerminal x = new JobTerminal();
        Check.write(x, 0, 4, 0);
        for (int job = 0; job < 4; job++) {
            x.launch(0, 0, true);
        }
        int[] slots = {0, 7};
        for (int slot : slots) {
            for (int which : WRONG) {
                Check.same("process(" + slot + ", " + which + ")", x.process(slot, which), -1);
            }
            Check.same("process(" + slot + ", 9)", x.process(slot, 9), -1);
            Check.same("process(" + slot + ", 10)", x.process(slot, 10), -1);
            Check.same("process(" + slot + ", 8)", x.process(slot, 8), 0);
            Check.same("process(" + slot + ", 0)", x.process(slot, 0), 1);
        }
    }

    private static void codeOfOneThatHasNotEnded() {
        Check.about("8 its code (0 as long as it has not ended)");
        JobTerminal x = new JobTerminal();
        Check.write(x, 0, 10, 9, 0, 255);
        x.launch(0, -1, true);
        Check.same("ready", x.process(0, 8), 0);
        x.step(1);
        x.send(0, 6);
        Check.same("stopped", x.process(0, 8), 0);
        x.send(0, 5);
        x.step(1);
        Check.same("ended", x.process(0, 8), 255);
    }

    private static void shownFromZero() {
        Check.about("How many codes were ever shown");
        int[] counts = {0, 1, 99, 100, 101, 130};
        for (int count : counts) {
            Check.same("shown", showing(count).shown(), count);
        }
    }

    private static void screenOfNothing() {
        Check.about("NONE when .. there is none");
        JobTerminal x = new JobTerminal();
        for (int k = 0; k <= 100; k++) {
            Check.same("screen(" + k + ")", x.screen(k), -1);
        }
    }

    private static void screenUpToWhatWasShown() {
        Check.about("The code that was shown k codes before the latest one (0: that one); NONE when .. there is none");
        int[] counts = {1, 2, 50, 99};
        for (int count : counts) {
            JobTerminal x = showing(count);
            for (int k = 0; k < 100; k++) {
                Check.same("screen(" + k + ") of " + count, x.screen(k), k < count ? count - 1 - k : -1);
            }
        }
    }

    private static void screenOfTheLatestHundred() {
        Check.about("(The latest 100 codes can be looked at.)");
        int[] counts = {100, 101, 127, 199, 200, 201};
        for (int count : counts) {
            JobTerminal x = showing(count);
            for (int k = 0; k < 100; k++) {
                Check.same("screen(" + k + ") of " + count, x.screen(k), count - 1 - k & 127);
            }
            Check.same("screen(100) of " + count, x.screen(100), -1);
        }
    }

    private static void screenBeyondNinetyNine() {
        Check.about("NONE when k is not 0 .. 99");
        JobTerminal x = showing(150);
        for (int k : WRONG) {
            Check.same("screen(" + k + ")", x.screen(k), -1);
        }
        Check.same("screen(100)", x.screen(100), -1);
        Check.same("screen(101)", x.screen(101), -1);
        Check.same("screen(149)", x.screen(149), -1);
        Check.same("screen(150)", x.screen(150), -1);
    }

    private static void heldOfOtherNumbers() {
        Check.about("NONE for other numbers");
        JobTerminal x = new JobTerminal();
        for (int job = 0; job < 4; job++) {
            x.launch(0, 0, true);
        }
        for (int which : WRONG) {
            Check.same("held(" + which + ")", x.held(which), -1);
        }
        Check.same("held(6)", x.held(6), -1);
        Check.same("held(7)", x.held(7), -1);
        for (int which = 0; which < 6; which++) {
            Check.same("held(" + which + ")", x.held(which), 0);
        }
    }

    private static void heldOfNoJobOrPipe() {
        Check.about("or when there is no such job or pipe");
        for (int pair = 0; pair < 4; pair++) {
            JobTerminal x = new JobTerminal();
            Check.write(x, 0, 1, 65, 4, 0);
            Check.write(x, 1, 8, 7);
            for (int which = 2; which < 6; which++) {
                Check.same("no job", x.held(which), -1);
            }
            for (int job = 0; job < 4; job++) {
                x.launch(job == pair ? 0 : 1, job == pair ? 1 : -1, true);
            }
            x.step(20);
            for (int job = 0; job < 4; job++) {
                Check.same("held(" + (job + 2) + ")", x.held(job + 2), job == pair ? 4 : -1);
            }
        }
    }

    private static void heldUpToFull() {
        Check.about("How many there are: 0 characters in the edit, 1 numbers in the queue, 2 .. 5 in the pipe");
        JobTerminal x = new JobTerminal();
        Check.write(x, 0, 1, 65, 4, 0);
        Check.write(x, 1, 8, 7);
        for (int i = 0; i < 20; i++) {
            Check.same("edit", x.held(0), i);
            Check.type(x, 'a');
        }
        Check.same("edit", x.held(0), 20);
        Check.type(x, 21);
        for (int i = 0; i < 40; i++) {
            Check.same("queue", x.held(1), i);
            Check.type(x, 4);
        }
        Check.same("queue", x.held(1), 40);
        x.launch(0, 1, true);
        x.step(1);
        Check.same("pipe", x.held(2), 1);
        x.step(1);
        for (int i = 2; i <= 4; i++) {
            x.step(2);
            Check.same("pipe", x.held(2), i);
        }
        Check.same("a jump", x.step(2), 1);
        Check.same("full", x.held(2), 4);
    }
}
