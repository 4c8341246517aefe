/** Promises 13 to 18: what can be looked at. */
public final class LookingTest {
    private static final int LEAST = Integer.MIN_VALUE;
    private static final int MOST = Integer.MAX_VALUE;

    public static void main(String[] args) {
        foreground();
        job();
        process();
        shown();
        screen();
        held();
        lookingChangesNothing();
        Check.end();
    }

    private static void foreground() {
        for (int before = 0; before < 4; before++) {
            JobTerminal x = new JobTerminal();
            Check.same("none", x.foreground(), -1);
            for (int job = 0; job < 4; job++) {
                x.launch(0, -1, job != before);
            }
            Check.same("foreground", x.foreground(), before);
            x.step(64);
            Check.same("ended", x.foreground(), -1);
        }
        JobTerminal x = new JobTerminal();
        Check.write(x, 1, 9, 7);
        Check.write(x, 2, 4, 0);
        x.launch(1, 2, false);
        x.step(1);
        Check.same("one of two is stopped", x.foreground(), 0);
        x.send(0, 8);
        Check.same("both are", x.foreground(), -1);
    }

    private static void job() {
        JobTerminal x = new JobTerminal();
        int[] wrong = {LEAST, -1, 0, 3, 4, MOST};
        for (int job : wrong) {
            Check.same("job(" + job + ")", x.job(job), -1);
        }
        Check.write(x, 1, 4, 0);
        x.launch(0, 1, true);
        Check.same("both ready", x.job(0), 1);
        x.step(1);
        Check.same("ended and ready", x.job(0), 1);
        x.send(0, 6);
        Check.same("ended and stopped", x.job(0), 2);
        x.send(0, 3);
        Check.same("both ended", x.job(0), 3);
        x.report();
        Check.same("gone", x.job(0), -1);
        Check.write(x, 2, 9, 6, 4, 1);
        x.launch(2, 1, true);
        x.launch(1, 2, true);
        x.step(4);
        Check.same("stopped and ready", x.job(0), 1);
        Check.same("ready and stopped", x.job(1), 1);
        x.send(0, 6);
        Check.same("both stopped", x.job(0), 2);
    }

    private static void process() {
        JobTerminal x = new JobTerminal();
        Check.write(x, 3, 6, 5, 9, 2, 7, 2 + 512, 10, -77, 8, 3, 0, 300);
        x.launch(0, -1, true);
        x.launch(3, -1, true);
        x.step(6);
        Check.slot("a process", x, 1, 1, 1, 5, -77, 4, 5, 514, 3, 0);
        int[] wrong = {LEAST, -1, 9, 10, MOST};
        for (int which : wrong) {
            Check.same("which " + which, x.process(1, which), -1);
        }
        int[] wrongSlot = {LEAST, -1, 2, 7, 8, MOST};
        for (int slot : wrongSlot) {
            for (int which = -1; which < 10; which++) {
                Check.same("slot " + slot, x.process(slot, which), -1);
            }
        }
        for (int i = 0; i < 3; i++) {
            x.tick();
        }
        x.step(1);
        Check.slot("ended", x, 1, 3, 1, 5, -77, 4, 5, 514, 0, 44);
    }

    private static void shown() {
        JobTerminal x = new JobTerminal();
        Check.write(x, 0, 1, 65, 4, 0);
        x.launch(0, -1, true);
        for (int i = 1; i <= 10; i++) {
            x.step(64);
            Check.same("shown", x.shown(), 32 * i);
        }
        Check.type(x, 'a', 1, 10);
        Check.same("shown with echoes", x.shown(), 325);
    }

    private static void screen() {
        JobTerminal x = new JobTerminal();
        Check.write(x, 0, 3, 0, 11, 1, 4, 0);
        int[] wrong = {LEAST, -1, 0, 1, 99, 100, MOST};
        for (int k : wrong) {
            Check.same("screen(" + k + ")", x.screen(k), -1);
        }
        x.flags(0);
        x.launch(0, -1, false);
        for (int shown = 20; shown <= 260; shown += 20) {
            x.step(60);
            int[] near = {0, 1, 19, 50, 98, 99};
            for (int k : near) {
                int due = k < shown ? shown - 1 - k & 127 : -1;
                Check.same("screen(" + k + ") of " + shown, x.screen(k), due);
            }
        }
        for (int k = 0; k < 100; k++) {
            Check.same("screen(" + k + ")", x.screen(k), 259 - k & 127);
        }
        Check.same("screen(100)", x.screen(100), -1);
        Check.same("screen(-1)", x.screen(-1), -1);
        Check.same("screen(" + LEAST + ")", x.screen(LEAST), -1);
        Check.same("screen(" + MOST + ")", x.screen(MOST), -1);
    }

    private static void held() {
        JobTerminal x = new JobTerminal();
        int[] wrong = {LEAST, LEAST + 1, LEAST + 2, -2, -1, 2, 3, 4, 5, 6, 7, MOST};
        for (int which : wrong) {
            Check.same("held(" + which + ")", x.held(which), -1);
        }
        Check.write(x, 0, 1, 65, 4, 0);
        Check.write(x, 1, 8, 7);
        Check.write(x, 2, 1, 65, 8, 7);
        x.launch(0, -1, true);
        x.launch(0, 1, true);
        x.launch(2, 1, true);
        x.launch(1, 1, true);
        x.step(64);
        Check.same("no pipe", x.held(2), -1);
        Check.same("a full pipe", x.held(3), 4);
        Check.same("one in the pipe", x.held(4), 1);
        Check.same("an empty pipe", x.held(5), 0);
        Check.same("held(6)", x.held(6), -1);
        Check.type(x, 'a', 'b', 'c', 10, 'd');
        Check.same("edit", x.held(0), 1);
        Check.same("queue", x.held(1), 4);
        x.send(1, 3);
        Check.same("a done job's pipe", x.held(3), 4);
        x.report();
        Check.same("a gone job's pipe", x.held(3), -1);
    }

    private static void lookingChangesNothing() {
        JobTerminal x = new JobTerminal();
        Check.write(x, 0, 1, 65, 4, 0);
        x.launch(0, 1, false);
        Check.type(x, 'a', 10, 'b');
        x.step(3);
        String before = Check.view(x);
        Check.same("view twice", Check.view(x), before);
    }
}
