/** Promise 5: a new job in the least number and slots, and what launch throws. */
public final class LaunchTest {
    private static final Class<?> ARGUMENT = IllegalArgumentException.class;
    private static final Class<?> STATE = IllegalStateException.class;

    public static void main(String[] args) {
        numbersAndSlots();
        beginsAnew();
        noSuchProgram();
        foregroundIsTaken();
        fourJobs();
        argumentsComeFirst();
        Check.end();
    }

    private static void numbersAndSlots() {
        JobTerminal x = new JobTerminal();
        Check.same("a pair", x.launch(0, 1, true), 0);
        Check.same("foreground behind a job behind", x.foreground(), -1);
        Check.same("a single one", x.launch(2, -1, false), 1);
        Check.same("foreground", x.foreground(), 1);
        Check.same("a pair", x.launch(3, 3, true), 2);
        Check.same("foreground stays", x.foreground(), 1);
        int[] jobs = {0, 0, 1, 2, 2, -1, -1, -1};
        for (int slot = 0; slot < 8; slot++) {
            Check.same("job of slot " + slot, x.process(slot, 1), jobs[slot]);
        }
        Check.same("told", x.report(), -1);
        x.send(1, 3);
        Check.same("report", x.report(), 7);
        Check.same("the least number", x.launch(0, 0, false), 1);
        Check.same("the least slot", x.process(2, 1), 1);
        Check.same("and the next free one", x.process(5, 1), 1);
        Check.same("foreground", x.foreground(), 1);
        Check.same("state", x.job(1), 1);
        Check.same("told", x.report(), -1);
        Check.same("the last number", x.launch(1, 2, true), 3);
        Check.same("slot 6", x.process(6, 1), 3);
        Check.same("slot 7", x.process(7, 1), 3);
        x.send(0, 3);
        x.report();
        Check.same("a job 0 again", x.launch(1, -1, true), 0);
        Check.same("slot 0", x.process(0, 1), 0);
        Check.same("slot 1 is free", x.process(1, 1), -1);
        Check.same("no pipe", x.held(2), -1);
    }

    private static void beginsAnew() {
        JobTerminal x = new JobTerminal();
        Check.write(x, 0, 6, 2, 9, 1, 7, 4, 10, 33, 1, 7, 8, 5);
        Check.write(x, 1, 0, 0);
        Check.write(x, 2, 0, 0);
        x.launch(0, 3, true);
        Check.same("steps to the write that fails", x.step(7), 6);
        Check.same("the nap", x.step(7), 1);
        Check.slot("used", x, 0, 1, 0, 6, -2, 2, 2, 4, 5, 0);
        x.send(0, 3);
        Check.slot("killed", x, 0, 3, 0, 6, -2, 2, 2, 4, 5, 131);
        Check.same("report", x.report(), 3);
        x.launch(0, 3, true);
        Check.slot("begun anew", x, 0, 1, 0, 0, 0, 0, 0, 0, 0, 0);
        Check.slot("begun anew", x, 1, 1, 0, 0, 0, 0, 0, 0, 0, 0);

        JobTerminal y = new JobTerminal();
        Check.write(y, 0, 1, 7, 4, 0);
        Check.write(y, 1, 8, 7);
        y.launch(0, 1, true);
        y.step(10);
        Check.same("a full pipe", y.held(2), 4);
        y.send(0, 3);
        y.report();
        y.launch(0, 1, true);
        Check.same("an empty pipe", y.held(2), 0);
    }

    private static void noSuchProgram() {
        JobTerminal x = new JobTerminal();
        String before = Check.view(x);
        int[] wrong = {Integer.MIN_VALUE, -2, 4, 5, 64, Integer.MAX_VALUE};
        for (int p : wrong) {
            Check.refuses("launch(" + p + ", -1)", ARGUMENT, () -> x.launch(p, -1, true));
            Check.refuses("launch(" + p + ", 0)", ARGUMENT, () -> x.launch(p, 0, false));
            Check.refuses("launch(0, " + p + ")", ARGUMENT, () -> x.launch(0, p, true));
            Check.refuses("launch(3, " + p + ")", ARGUMENT, () -> x.launch(3, p, false));
        }
        Check.refuses("launch(-1, -1)", ARGUMENT, () -> x.launch(-1, -1, true));
        Check.refuses("launch(-1, 0)", ARGUMENT, () -> x.launch(-1, 0, true));
        Check.same("view", Check.view(x), before);
        Check.same("job 0 is still to come", x.launch(0, -1, true), 0);
    }

    private static void foregroundIsTaken() {
        JobTerminal x = new JobTerminal();
        x.launch(0, -1, false);
        String before = Check.view(x);
        Check.refuses("a second one before", STATE, () -> x.launch(0, -1, false));
        Check.refuses("a second pair before", STATE, () -> x.launch(0, 1, false));
        Check.same("view", Check.view(x), before);
        Check.same("one behind", x.launch(0, -1, true), 1);
        x.back(0);
        Check.same("one before", x.launch(0, -1, false), 2);
    }

    private static void fourJobs() {
        JobTerminal x = new JobTerminal();
        for (int job = 0; job < 4; job++) {
            Check.same("launch", x.launch(0, -1, true), job);
        }
        String before = Check.view(x);
        Check.refuses("a fifth behind", STATE, () -> x.launch(0, -1, true));
        Check.refuses("a fifth before", STATE, () -> x.launch(0, -1, false));
        Check.refuses("a fifth pair", STATE, () -> x.launch(0, 0, true));
        Check.same("view", Check.view(x), before);
        x.send(2, 3);
        Check.refuses("a fifth beside a done one", STATE, () -> x.launch(0, -1, true));
        Check.same("report", x.report(), 11);
        Check.same("in its place", x.launch(0, -1, true), 2);

        JobTerminal y = new JobTerminal();
        for (int job = 0; job < 4; job++) {
            Check.same("launch of a pair", y.launch(0, 0, true), job);
        }
        Check.same("the last slot", y.process(7, 1), 3);
        Check.refuses("a fifth pair", STATE, () -> y.launch(0, 0, true));
    }

    private static void argumentsComeFirst() {
        JobTerminal x = new JobTerminal();
        x.launch(0, -1, false);
        Check.refuses("no program, taken", ARGUMENT, () -> x.launch(4, -1, false));
        for (int job = 1; job < 4; job++) {
            x.launch(0, -1, true);
        }
        Check.refuses("no program, four jobs", ARGUMENT, () -> x.launch(0, 4, true));
    }
}
