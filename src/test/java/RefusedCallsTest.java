import java.util.concurrent.Callable;

/**
 * A call that throws, or answers NONE or false, changes nothing: of two objects that were brought into the
 * same state one is called in all ways that are refused there; then both must be the same, now and in
 * what they do later on.
 */
public final class RefusedCallsTest {
    private static final int LEAST = Integer.MIN_VALUE;
    private static final int MOST = Integer.MAX_VALUE;
    private static final int NONE = -1;

    /** Brings a new object into a state. */
    private interface Maker {
        void make(JobTerminal x);
    }

    public static void main(String[] args) {
        Check.about("A call that throws, or answers NONE or false, changes nothing");
        twins("new", RefusedCallsTest::writePrograms, RefusedCallsTest::refusedWithoutJobs);
        twins("all full", RefusedCallsTest::fillAll, RefusedCallsTest::refusedWhenFull);
        twins("four told jobs", RefusedCallsTest::fourToldJobs, RefusedCallsTest::refusedWhenTold);
        twins("hanging", RefusedCallsTest::hangWithJobs, RefusedCallsTest::refusedWhenHanging);
        twins("without LINES", RefusedCallsTest::fillWithoutLines, RefusedCallsTest::refusedWithoutLines);
        Check.end();
    }

    private static void twins(String state, Maker maker, Maker refused) {
        JobTerminal called = new JobTerminal();
        JobTerminal spared = new JobTerminal();
        maker.make(called);
        maker.make(spared);
        refused.make(called);
        refusedAlways(called);
        Check.same(state + ": view", Check.view(called), Check.view(spared));
        Check.same(state + ": what comes later", later(called), later(spared));
    }

    private static void writePrograms(JobTerminal x) {
        Check.write(x, 0, 2, 0, 3, 0, 4, 0);
        Check.write(x, 1, 6, 2 + 128, 11, 1, 4, 1);
        Check.write(x, 2, 1, 66, 8, 3, 4, 0);
    }

    private static void fillAll(JobTerminal x) {
        writePrograms(x);
        Check.typeTimes(x, 40, 4);
        for (int i = 0; i < 20; i++) {
            Check.type(x, 'a' + i);
        }
        x.launch(0, 2, false);
        x.launch(1, 1, true);
        x.launch(1, 2, true);
        x.launch(2, 2, true);
        x.step(5);
        x.send(1, 6);
        x.send(1, 4);
        x.send(2, 7);
        x.send(3, 3);
    }

    private static void fourToldJobs(JobTerminal x) {
        writePrograms(x);
        x.launch(1, -1, true);
        x.launch(1, 1, true);
        x.launch(1, -1, true);
        x.launch(2, 1, true);
        x.step(6);
        x.send(0, 1);
        x.send(1, 6);
        x.report();
        Check.same("all are told", x.report(), NONE);
    }

    private static void hangWithJobs(JobTerminal x) {
        writePrograms(x);
        x.hang();
        x.launch(1, -1, false);
        x.launch(1, 2, true);
        x.step(3);
        x.send(1, 6);
        Check.type(x, 'a', 10, 'b');
    }

    private static void fillWithoutLines(JobTerminal x) {
        writePrograms(x);
        Check.type(x, 'a', 'b');
        x.flags(2 + 32);
        for (int i = 0; i < 40; i++) {
            Check.type(x, i);
        }
        x.launch(0, -1, false);
    }

    private static void refusedAlways(JobTerminal x) {
        no("program", () -> x.program(4, 0, 0, 9));
        no("program", () -> x.program(-1, 15, 0, 9));
        no("program", () -> x.program(0, 16, 0, 9));
        no("program", () -> x.program(1, -1, 0, 9));
        none("flags", () -> x.flags(64));
        none("flags", () -> x.flags(-1));
        no("key", () -> x.key((char) 128));
        no("key", () -> x.key((char) (256 + 3)));
        argument("launch", () -> x.launch(4, -1, true));
        argument("launch", () -> x.launch(0, 4, true));
        argument("launch", () -> x.launch(-1, -1, false));
        argument("launch", () -> x.launch(0, -2, false));
        argument("front", () -> x.front(4));
        argument("front", () -> x.front(-1));
        argument("back", () -> x.back(4));
        argument("back", () -> x.back(LEAST));
        argument("send", () -> x.send(4, 3));
        argument("send", () -> x.send(-1, 5));
        argument("send", () -> x.send(0, 10));
        argument("send", () -> x.send(0, -1));
        none("step", () -> x.step(0));
        none("step", () -> x.step(65));
        none("step", () -> x.step(LEAST));
        none("job", () -> x.job(4));
        none("job", () -> x.job(-1));
        none("process", () -> x.process(8, 0));
        none("process", () -> x.process(0, 9));
        none("process", () -> x.process(-1, -1));
        none("screen", () -> x.screen(100));
        none("screen", () -> x.screen(-1));
        none("held", () -> x.held(6));
        none("held", () -> x.held(MOST));
    }

    private static void refusedWithoutJobs(JobTerminal x) {
        none("report", () -> x.report());
        none("foreground", () -> x.foreground());
        none("screen", () -> x.screen(0));
        none("held", () -> x.held(2));
        for (int job = 0; job < 4; job++) {
            int wanted = job;
            argument("front", () -> x.front(wanted));
            argument("back", () -> x.back(wanted));
            argument("send", () -> x.send(wanted, 3));
            none("job", () -> x.job(wanted));
        }
    }

    private static void refusedWhenFull(JobTerminal x) {
        no("a 21st character", () -> x.key('z'));
        no("a 21st low character", () -> x.key((char) 1));
        no("4", () -> x.key((char) 4));
        no("10", () -> x.key((char) 10));
        no("13", () -> x.key((char) 13));
        state("a second one before", () -> x.launch(0, -1, false));
        state("a fifth job", () -> x.launch(0, -1, true));
        state("a fifth pair", () -> x.launch(0, 1, true));
        state("front of a stopped one", () -> x.front(1));
        state("front of a running one", () -> x.front(2));
        state("front of a done one", () -> x.front(3));
        state("back of a done one", () -> x.back(3));
    }

    private static void refusedWhenTold(JobTerminal x) {
        none("report", () -> x.report());
        none("foreground", () -> x.foreground());
        none("no pipe", () -> x.held(2));
        state("a fifth job", () -> x.launch(0, -1, true));
        state("a fifth job before", () -> x.launch(0, 0, false));
    }

    private static void refusedWhenHanging(JobTerminal x) {
        no("hang", () -> x.hang());
        no("hang", () -> x.hang());
        state("a second one before", () -> x.launch(0, 0, false));
        state("front of a stopped one", () -> x.front(1));
        argument("no such job", () -> x.front(2));
        argument("no such job", () -> x.send(2, 9));
    }

    private static void refusedWithoutLines(JobTerminal x) {
        int[] keys = {0, 3, 4, 10, 13, 21, 26, 28, 65, 127};
        for (int c : keys) {
            no("key " + c, () -> x.key((char) c));
        }
        state("a second one before", () -> x.launch(1, -1, false));
        none("report", () -> x.report());
    }

    private static void no(String what, Callable<?> call) {
        Check.same(what, answer(call), "false");
    }

    private static void none(String what, Callable<?> call) {
        Check.same(what, answer(call), "-1");
    }

    private static void argument(String what, Callable<?> call) {
        Check.same(what, answer(call), "IllegalArgumentException");
    }

    private static void state(String what, Callable<?> call) {
        Check.same(what, answer(call), "IllegalStateException");
    }

    private static String answer(Callable<?> call) {
        try {
            return String.valueOf(call.call());
        } catch (Exception e) {
            return e.getClass().getSimpleName();
        }
    }

    /** What an object answers to calls that bring out what no look tells. */
    private static String later(JobTerminal x) {
        StringBuilder text = new StringBuilder();
        // whose turn it is
        for (int i = 0; i < 4; i++) {
            text.append(' ').append(x.step(1)).append(lines(x));
        }
        // which jobs are untold
        for (int i = 0; i < 5; i++) {
            text.append(" report ").append(x.report());
        }
        // what stands in the queue, and then in the edit
        for (int job = 0; job < 4; job++) {
            if (x.job(job) != NONE) {
                x.send(job, 3);
                x.report();
            }
        }
        Check.write(x, 3, 2, 0, 4, 0);
        text.append(" read");
        text.append(x.launch(3, -1, false));
        for (int i = 0; i < 41; i++) {
            text.append(' ').append(x.step(2)).append(':').append(x.process(0, 3));
        }
        x.flags(1);
        text.append(' ').append(x.key((char) 10));
        for (int i = 0; i < 22; i++) {
            text.append(' ').append(x.step(2)).append(':').append(x.process(0, 3));
        }
        // what stands in the programs
        x.send(0, 3);
        x.report();
        for (int p = 0; p < 4; p++) {
            x.launch(p, -1, true);
        }
        for (int i = 0; i < 3; i++) {
            text.append(" steps ").append(x.step(9)).append(lines(x)).append(' ').append(x.tick());
        }
        text.append(' ').append(x.hang());
        return text.toString();
    }

    private static String lines(JobTerminal x) {
        StringBuilder text = new StringBuilder(" lines");
        for (int slot = 0; slot < 8; slot++) {
            text.append(' ').append(x.process(slot, 2));
        }
        return text.toString();
    }
}
