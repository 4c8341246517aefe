/** The edges of promises 5, 6, 7, 9, 13 and 14, and of the sentences on processes, slots and jobs. */
public final class JobEdgesTest {
    private static final Class<?> ARGUMENT = IllegalArgumentException.class;
    private static final Class<?> STATE = IllegalStateException.class;
    private static final int LEAST = Integer.MIN_VALUE;
    private static final int MOST = Integer.MAX_VALUE;
    private static final int[] FREE = {-1, -1, -1, -1, -1, -1, -1, -1, -1};
    private static final int[] FRESH = {1, 0, 0, 0, 0, 0, 0, 0, 0};

    public static void main(String[] args) {
        allSlotsFull();
        aUsedSlotBeginsAnew();
        aUsedPipeBeginsEmpty();
        statesOfAllPairs();
        statesOfSingles();
        theSameStateIsTold();
        untoldUntilReported();
        untoldAndLeavesTheForeground();
        runningAgainIsUntoldToo();
        noSuchProgram();
        secondOfMinusOneIsNone();
        foregroundIsTaken();
        fourJobs();
        leastJobThereIsNot();
        leastFreeSlots();
        launchIsToldAgain();
        frontRefused();
        frontOfItself();
        frontThatEndsTheJob();
        backRefused();
        backOfAJobBehind();
        backThatEndsTheJob();
        reportOfNothing();
        reportTellsTheLeast();
        reportFreesOnlyDoneOnes();
        noSuchJob();
        Check.end();
    }

    /** A program that goes round for ever. */
    private static JobTerminal withLoop() {
        JobTerminal x = new JobTerminal();
        Check.write(x, 0, 4, 0);
        return x;
    }

    private static void allSlotsFull() {
        Check.about("PROCESSES stand in SLOTS 0 .. 7");
        JobTerminal x = withLoop();
        for (int job = 0; job < 4; job++) {
            Check.same("launch", x.launch(0, 0, true), job);
        }
        for (int slot = 0; slot < 8; slot++) {
            Check.slot("full", x, slot, 1, slot / 2, 0, 0, 0, 0, 0, 0, 0);
        }
        Check.slot("slot 8", x, 8, FREE);
        Check.slot("slot -1", x, -1, FREE);
        for (int job = 0; job < 4; job++) {
            x.send(job, 3);
            Check.same("report", x.report(), 4 * job + 3);
        }
        for (int slot = 0; slot < 8; slot++) {
            Check.slot("free again", x, slot, FREE);
        }
    }

    private static void aUsedSlotBeginsAnew() {
        Check.about("all empty, and the register 0, when it begins");
        JobTerminal x = new JobTerminal();
        Check.write(x, 0, 7, 1, 6, 6, 9, 1, 10, -9, 8, 7, 0, 200);
        x.launch(0, 0, true);
        Check.same("steps", x.step(64), 10);
        Check.slot("used", x, 0, 1, 0, 5, -9, 2, 6, 1, 7, 0);
        Check.slot("used", x, 1, 1, 0, 5, -9, 2, 6, 1, 7, 0);
        x.send(0, 3);
        Check.same("report", x.report(), 3);
        x.launch(0, 0, true);
        Check.slot("first", x, 0, FRESH);
        Check.slot("second", x, 1, FRESH);
        // and one whose code was not 0
        JobTerminal y = new JobTerminal();
        Check.write(y, 0, 0, 200);
        y.launch(0, -1, true);
        y.step(1);
        Check.same("code", y.process(0, 8), 200);
        y.report();
        y.launch(0, -1, true);
        Check.slot("anew", y, 0, FRESH);
    }

    private static void aUsedPipeBeginsEmpty() {
        Check.about("with two a PIPE, which holds at most 4 numbers");
        JobTerminal x = new JobTerminal();
        Check.write(x, 0, 1, 65, 4, 0);
        Check.write(x, 1, 8, 1, 2, 0);
        Check.write(x, 2, 1, 66, 8, 7);
        x.launch(0, 1, true);
        x.step(64);
        Check.same("full", x.held(2), 4);
        x.send(0, 3);
        Check.same("still there when done", x.held(2), 4);
        x.report();
        Check.same("gone with the job", x.held(2), -1);
        x.launch(2, 1, true);
        Check.same("empty", x.held(2), 0);
        x.step(64);
        x.tick();
        x.step(1);
        Check.same("no old number comes out", x.process(1, 3), 66);
        // a single one in its place has no pipe, and reads and writes at the terminal
        x.send(0, 3);
        x.report();
        x.launch(0, -1, true);
        Check.same("no pipe", x.held(2), -1);
        x.step(1);
        Check.showed("shown", x, 65);
    }

    private static void statesOfAllPairs() {
        Check.about("A JOB IS DONE (3) when all its processes have ended; else STOPPED (2), when none of"
                + " them is ready; else RUNNING (1)");
        int[][] due = {{1, 1, 1}, {1, 2, 2}, {1, 2, 3}};
        for (int one = 1; one <= 3; one++) {
            for (int two = 1; two <= 3; two++) {
                JobTerminal x = pairInStates(one, two);
                Check.same("first", x.process(0, 0), one);
                Check.same("second", x.process(1, 0), two);
                int state = due[one - 1][two - 1];
                Check.same("job of " + one + " and " + two, x.job(0), state);
                Check.same("foreground", x.foreground(), state == 1 ? 0 : -1);
                Check.same("report", x.report(), state == 1 ? -1 : state);
            }
        }
    }

    private static JobTerminal pairInStates(int one, int two) {
        JobTerminal x = new JobTerminal();
        int[] states = {one, two};
        for (int p = 0; p < 2; p++) {
            if (states[p] == 1) {
                Check.write(x, p, 4, 0);
            } else if (states[p] == 2) {
                Check.write(x, p, 9, 6);
            } else {
                Check.write(x, p, 0, 0);
            }
        }
        x.launch(0, 1, false);
        Check.same("steps", x.step(2), 2);
        return x;
    }

    private static void statesOfSingles() {
        Check.about("A JOB IS DONE (3) when all its processes have ended");
        JobTerminal x = withLoop();
        x.launch(0, -1, false);
        Check.same("ready", x.job(0), 1);
        Check.same("stopped", x.send(0, 6), 2);
        Check.same("ready", x.send(0, 5), 1);
        Check.same("ended", x.send(0, 3), 3);
        Check.same("job", x.job(0), 3);
    }

    private static void theSameStateIsTold() {
        Check.about("When the state of a job is another one .. than before it, it is UNTOLD");
        JobTerminal x = withLoop();
        x.launch(0, 0, true);
        x.send(0, 5);
        x.step(64);
        x.tick();
        x.back(0);
        x.front(0);
        Check.same("running all the time", x.report(), -1);
        x.send(0, 6);
        Check.same("stopped", x.report(), 2);
        x.send(0, 6);
        x.send(0, 1);
        x.send(0, 7);
        Check.same("stopped all the time", x.report(), -1);
        Check.same("job", x.job(0), 2);
    }

    private static void untoldUntilReported() {
        Check.about("it is UNTOLD");
        JobTerminal x = withLoop();
        x.launch(0, -1, true);
        x.send(0, 6);
        x.send(0, 6);
        x.step(64);
        x.tick();
        Check.same("still untold", x.report(), 2);
        x.send(0, 5);
        x.send(0, 6);
        Check.same("untold though it is as it was told", x.report(), 2);
        Check.same("told", x.report(), -1);
    }

    private static void untoldAndLeavesTheForeground() {
        Check.about("and, if it is stopped or done, not in the foreground any more");
        int[] signals = {0, 1, 2, 3, 4, 6, 7, 8, 9};
        for (int signal : signals) {
            JobTerminal x = withLoop();
            x.launch(0, 0, false);
            x.send(0, signal);
            Check.same("foreground behind " + signal, x.foreground(), -1);
            Check.same("another can come", x.launch(0, -1, false), 1);
        }
        JobTerminal y = withLoop();
        y.launch(0, 0, false);
        y.send(0, 5);
        Check.same("foreground behind 5", y.foreground(), 0);
    }

    private static void runningAgainIsUntoldToo() {
        Check.about("When the state of a job is another one");
        JobTerminal x = withLoop();
        x.launch(0, -1, true);
        x.send(0, 6);
        x.report();
        x.send(0, 5);
        Check.same("it runs", x.report(), 1);
        Check.same("a running one is not gone", x.job(0), 1);
        x.send(0, 6);
        x.report();
        x.front(0);
        Check.same("it runs before", x.report(), 1);
        Check.same("and stays before", x.foreground(), 0);
    }

    private static void noSuchProgram() {
        Check.about("IllegalArgumentException: there is no such program");
        JobTerminal x = withLoop();
        int[] wrong = {LEAST, LEAST + 1, -3, -2, 4, 5, 16, MOST};
        for (int p : wrong) {
            Check.refuses("first " + p, ARGUMENT, () -> x.launch(p, -1, false));
            Check.refuses("first " + p + " of two", ARGUMENT, () -> x.launch(p, 0, true));
            Check.refuses("second " + p, ARGUMENT, () -> x.launch(0, p, false));
            Check.refuses("both " + p, ARGUMENT, () -> x.launch(p, p, true));
        }
        Check.refuses("first -1", ARGUMENT, () -> x.launch(-1, 0, true));
        Check.same("no job", x.job(0), -1);
        Check.same("no process", x.process(0, 0), -1);
        Check.same("none before", x.foreground(), -1);
        Check.same("the first and the last one", x.launch(0, 3, true), 0);
        Check.same("the last and the first one", x.launch(3, 0, true), 1);
    }

    private static void secondOfMinusOneIsNone() {
        Check.about("and, if second is not -1, one of the program second");
        JobTerminal x = withLoop();
        x.launch(0, -1, true);
        Check.same("one slot", x.process(0, 1), 0);
        Check.same("no other", x.process(1, 1), -1);
        x.launch(0, 0, true);
        Check.same("two slots", x.process(1, 1), 1);
        Check.same("two slots", x.process(2, 1), 1);
    }

    private static void foregroundIsTaken() {
        Check.about("IllegalStateException: another job is in the foreground and this one should be");
        JobTerminal x = withLoop();
        x.launch(0, -1, false);
        Check.refuses("single", STATE, () -> x.launch(0, -1, false));
        Check.refuses("pair", STATE, () -> x.launch(0, 0, false));
        Check.same("no job 1", x.job(1), -1);
        Check.same("still job 0", x.foreground(), 0);
        Check.same("behind it may be", x.launch(0, -1, true), 1);
        Check.same("still job 0", x.foreground(), 0);
        x.send(0, 6);
        Check.same("once it is stopped", x.launch(0, -1, false), 2);
        x.send(2, 3);
        Check.same("once it is done", x.launch(0, -1, false), 3);
        Check.same("foreground", x.foreground(), 3);
    }

    private static void fourJobs() {
        Check.about("IllegalStateException: there are four jobs");
        JobTerminal x = withLoop();
        for (int job = 0; job < 4; job++) {
            Check.same("launch", x.launch(0, -1, true), job);
        }
        Check.refuses("a fifth", STATE, () -> x.launch(0, -1, true));
        Check.refuses("a fifth before", STATE, () -> x.launch(0, -1, false));
        Check.refuses("a fifth of two", STATE, () -> x.launch(0, 0, true));
        Check.same("slot 4", x.process(4, 0), -1);
        Check.same("none before", x.foreground(), -1);
        x.send(3, 3);
        Check.refuses("a done one is there until it is told", STATE, () -> x.launch(0, -1, true));
        x.report();
        Check.same("in its place", x.launch(0, 0, false), 3);
        Check.refuses("a fifth", STATE, () -> x.launch(0, -1, true));
    }

    private static void leastJobThereIsNot() {
        Check.about("A new job, the least one that there is not");
        for (int gone = 0; gone < 4; gone++) {
            JobTerminal x = withLoop();
            for (int job = 0; job < 4; job++) {
                x.launch(0, -1, true);
            }
            x.send(gone, 3);
            x.report();
            Check.same("in the gap", x.launch(0, -1, true), gone);
            x.send(gone, 3);
            x.send(3, 3);
            x.report();
            x.report();
            Check.same("in the lesser gap", x.launch(0, -1, true), gone);
        }
    }

    private static void leastFreeSlots() {
        Check.about("in the least slots that are free");
        // slots 0, 12, 3, 45 are used; then 1, 2 and 4, 5 are freed, and 3
        JobTerminal x = withLoop();
        x.launch(0, -1, true);
        x.launch(0, 0, true);
        x.launch(0, -1, true);
        x.launch(0, 0, true);
        x.send(1, 3);
        x.report();
        Check.same("one", x.launch(0, -1, true), 1);
        Check.same("slot 1", x.process(1, 1), 1);
        Check.same("slot 2 is free", x.process(2, 1), -1);
        x.send(0, 3);
        x.send(3, 3);
        x.report();
        x.report();
        Check.same("a pair", x.launch(0, 0, true), 0);
        Check.same("first in slot 0", x.process(0, 1), 0);
        Check.same("second in slot 2", x.process(2, 1), 0);
        Check.same("slot 4 is free", x.process(4, 1), -1);
        Check.same("a pair", x.launch(0, 0, true), 3);
        Check.same("first in slot 4", x.process(4, 1), 3);
        Check.same("second in slot 5", x.process(5, 1), 3);
        Check.same("slot 6 is free", x.process(6, 1), -1);
    }

    private static void launchIsToldAgain() {
        Check.about("It is told, running, and in the foreground unless it is behind");
        JobTerminal x = withLoop();
        for (int round = 0; round < 3; round++) {
            boolean behind = round == 1;
            x.launch(0, -1, behind);
            Check.same("told", x.report(), -1);
            Check.same("running", x.job(0), 1);
            Check.same("foreground", x.foreground(), behind ? -1 : 0);
            x.send(0, 3);
            Check.same("done", x.report(), 3);
        }
    }

    private static void frontRefused() {
        Check.about("front: IllegalArgumentException: there is no such job; IllegalStateException: another one is"
                + " there, or it is done");
        JobTerminal x = withLoop();
        Check.refuses("job 0 of none", ARGUMENT, () -> x.front(0));
        x.launch(0, -1, false);
        x.launch(0, -1, true);
        x.launch(0, -1, true);
        x.send(1, 6);
        x.send(2, 3);
        int[] wrong = {LEAST, -1, 3, 4, MOST};
        for (int job : wrong) {
            Check.refuses("front(" + job + ")", ARGUMENT, () -> x.front(job));
        }
        Check.refuses("another is there", STATE, () -> x.front(1));
        Check.same("it was not continued", x.job(1), 2);
        Check.refuses("another is there, and done", STATE, () -> x.front(2));
        x.back(0);
        Check.refuses("done", STATE, () -> x.front(2));
        Check.same("none before", x.foreground(), -1);
        Check.same("told by and by", x.report(), 6);
        Check.same("told by and by", x.report(), 11);
        Check.refuses("gone", ARGUMENT, () -> x.front(2));
    }

    private static void frontOfItself() {
        Check.about("IllegalStateException: another one is there");
        JobTerminal x = withLoop();
        x.launch(0, 0, false);
        Check.same("its own place", x.front(0), 1);
        Check.same("foreground", x.foreground(), 0);
        Check.same("told", x.report(), -1);
    }

    private static void frontThatEndsTheJob() {
        Check.about("A job is in the foreground, and is sent 5: its state then");
        JobTerminal x = withLoop();
        x.launch(0, -1, true);
        x.send(0, 6);
        x.report();
        x.send(0, 4);
        Check.same("the pending 4 ends it", x.front(0), 3);
        Check.same("not before", x.foreground(), -1);
        Check.same("untold", x.report(), 3);
        // one of two ends, so the job runs, before
        JobTerminal y = new JobTerminal();
        Check.write(y, 0, 4, 0);
        Check.write(y, 1, 7, 16, 4, 1);
        y.launch(0, 1, true);
        y.step(2);
        y.send(0, 6);
        y.send(0, 4);
        Check.same("one goes on", y.front(0), 1);
        Check.same("the first has ended", y.process(0, 8), 132);
        Check.same("foreground", y.foreground(), 0);
    }

    private static void backRefused() {
        Check.about("back: IllegalArgumentException: there is no such job; IllegalStateException: it is done");
        JobTerminal x = withLoop();
        Check.refuses("job 0 of none", ARGUMENT, () -> x.back(0));
        x.launch(0, -1, false);
        x.launch(0, 0, true);
        x.send(1, 3);
        int[] wrong = {LEAST, -1, 2, 3, 4, MOST};
        for (int job : wrong) {
            Check.refuses("back(" + job + ")", ARGUMENT, () -> x.back(job));
        }
        Check.refuses("done", STATE, () -> x.back(1));
        Check.same("foreground", x.foreground(), 0);
        Check.same("report", x.report(), 7);
        Check.refuses("gone", ARGUMENT, () -> x.back(1));
    }

    private static void backOfAJobBehind() {
        Check.about("A job is in the foreground no more, and is sent 5: its state then");
        JobTerminal x = withLoop();
        x.launch(0, -1, false);
        x.launch(0, -1, true);
        x.send(1, 6);
        Check.same("continued", x.back(1), 1);
        Check.same("the other stays before", x.foreground(), 0);
        Check.same("a second time", x.back(1), 1);
        Check.same("out of the foreground", x.back(0), 1);
        Check.same("none before", x.foreground(), -1);
        Check.same("only the continued one is untold", x.report(), 5);
        Check.same("told", x.report(), -1);
    }

    private static void backThatEndsTheJob() {
        Check.about("back: its state then");
        JobTerminal x = withLoop();
        x.launch(0, 0, true);
        x.send(0, 9);
        x.send(0, 0);
        Check.same("the pending 0 ends both", x.back(0), 3);
        Check.same("codes", x.process(0, 8) + x.process(1, 8), 256);
        Check.same("untold", x.report(), 3);
    }

    private static void reportOfNothing() {
        Check.about("report: NONE when there is none");
        JobTerminal x = withLoop();
        Check.same("no job", x.report(), -1);
        x.launch(0, -1, true);
        Check.same("no untold job", x.report(), -1);
        x.send(0, 3);
        x.report();
        Check.same("no job any more", x.report(), -1);
    }

    private static void reportTellsTheLeast() {
        Check.about("The least untold job is told: 4 * job + its state");
        JobTerminal x = withLoop();
        for (int job = 0; job < 4; job++) {
            x.launch(0, -1, true);
        }
        x.send(3, 6);
        x.send(3, 5);
        x.send(2, 3);
        x.send(0, 6);
        Check.same("0, stopped", x.report(), 2);
        Check.same("2, done", x.report(), 11);
        Check.same("3, running", x.report(), 13);
        Check.same("none", x.report(), -1);
    }

    private static void reportFreesOnlyDoneOnes() {
        Check.about("if it is done, it is gone, and its slots are free");
        JobTerminal x = withLoop();
        x.launch(0, 0, true);
        x.launch(0, 0, true);
        x.send(0, 6);
        x.send(1, 3);
        Check.same("stopped", x.report(), 2);
        Check.same("slot 0", x.process(0, 0), 2);
        Check.same("slot 1", x.process(1, 0), 2);
        Check.same("done", x.report(), 7);
        Check.slot("slot 2", x, 2, FREE);
        Check.slot("slot 3", x, 3, FREE);
        Check.same("job 1", x.job(1), -1);
        Check.same("a gone one does no step", x.step(9), 0);
        Check.same("slot 0", x.process(0, 0), 2);
    }

    private static void noSuchJob() {
        Check.about("The state of a job; NONE when there is no such job");
        JobTerminal x = withLoop();
        int[] wrong = {LEAST, LEAST + 1, -2, -1, 0, 1, 2, 3, 4, 5, 1 << 30, MOST};
        for (int job : wrong) {
            Check.same("job(" + job + ")", x.job(job), -1);
        }
        for (int job = 0; job < 4; job++) {
            x.launch(0, -1, true);
            Check.same("job(" + job + ")", x.job(job), 1);
        }
        Check.same("job(-1)", x.job(-1), -1);
        Check.same("job(4)", x.job(4), -1);
    }
}
