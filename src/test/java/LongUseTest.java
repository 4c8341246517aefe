/** An object is used for at most 512 calls: it must do all that it can in so many of them. */
public final class LongUseTest {
    private static final int CALLS = 512;

    public static void main(String[] args) {
        Check.about("An object is used for at most 512 calls");
        mostCodesShown();
        mostJobs();
        mostRefusals();
        Check.end();
    }

    private static void mostCodesShown() {
        JobTerminal x = new JobTerminal();
        for (int line = 0; line < 15; line++) {
            x.program(0, line, 1, 10);
        }
        x.program(0, 15, 4, 0);
        x.launch(0, -1, false);
        int used = 17;
        int steps = 0;
        while (used < CALLS - 3) {
            Check.same("step(64)", x.step(64), 64);
            steps += 64;
            used++;
        }
        // two codes for each line but the jump of every sixteenth step
        int due = 2 * (steps - steps / 16);
        Check.same("shown", x.shown(), due);
        Check.same("the latest", x.screen(0), 10);
        Check.same("the oldest that is kept", x.screen(99), 13);
    }

    private static void mostJobs() {
        JobTerminal x = new JobTerminal();
        for (int used = 0; used + 3 <= CALLS; used += 3) {
            Check.same("launch", x.launch(used % 4, 3, false), 0);
            Check.same("both end", x.step(64), 2);
            Check.same("report", x.report(), 3);
        }
    }

    private static void mostRefusals() {
        JobTerminal x = new JobTerminal();
        for (int used = 0; used + 1 < CALLS; used++) {
            Check.refuses("send", IllegalArgumentException.class, () -> x.send(0, 3));
        }
        Check.same("the last call", x.launch(0, -1, false), 0);
    }
}
