/** Promise 10: steps, their order, and every op. */
public final class StepTest {
    public static void main(String[] args) {
        wrongCounts();
        howMany();
        order();
        allSlotsInOrder();
        orderIsKeptBetweenCalls();
        ending();
        writing();
        writingTheRegister();
        jumping();
        blocking();
        blockedSignalsActLeastFirst();
        ignoring();
        napping();
        signallingItself();
        numbers();
        lineSixteen();
        readingFromThePipe();
        writingToThePipe();
        pipeRunsRound();
        readingFromTheTerminal();
        readingBehind();
        readingBehindInAPair();
        writingBehind();
        writingBehindInAPair();
        failuresEndTheCall();
        stopsDoNotEndTheCall();
        statesAreComparedBehindEachStep();
        Check.end();
    }

    private static JobTerminal running(boolean behind, int... opsAndNumbers) {
        JobTerminal x = new JobTerminal();
        Check.write(x, 0, opsAndNumbers);
        x.launch(0, -1, behind);
        return x;
    }

    private static void wrongCounts() {
        JobTerminal x = running(false, 1, 65, 4, 0);
        String before = Check.view(x);
        int[] wrong = {Integer.MIN_VALUE, -1, 0, 65, 66, 128, Integer.MAX_VALUE};
        for (int n : wrong) {
            Check.same("step(" + n + ")", x.step(n), -1);
        }
        Check.same("view", Check.view(x), before);
    }

    private static void howMany() {
        JobTerminal x = running(false, 4, 0);
        Check.same("step(1)", x.step(1), 1);
        Check.same("step(64)", x.step(64), 64);
        JobTerminal y = running(false, 10, 1, 10, 2, 0, 0);
        Check.same("step(2)", y.step(2), 2);
        Check.same("step(2)", y.step(2), 1);
        Check.same("step(2)", y.step(2), 0);
    }

    private static void order() {
        JobTerminal x = new JobTerminal();
        for (int p = 0; p < 4; p++) {
            Check.write(x, p, 1, 'a' + p, 4, 0);
            x.launch(p, -1, true);
        }
        Check.same("step(1)", x.step(1), 1);
        Check.showed("slot 0 at first", x, 'a');
        x.step(3);
        Check.showed("one each", x, 'a', 'b', 'c', 'd');
        x.step(4);
        Check.same("jumps", x.shown(), 4);
        x.send(1, 6);
        x.step(3);
        Check.showed("without a stopped one", x, 'd', 'a', 'c', 'd');

        JobTerminal y = new JobTerminal();
        Check.write(y, 0, 8, 7);
        Check.write(y, 1, 10, 1, 1, 'y', 4, 1);
        for (int i = 0; i < 4; i++) {
            y.launch(0, i == 3 ? 1 : 0, true);
        }
        Check.same("all eight slots", y.step(8), 8);
        Check.same("slot 7", y.process(7, 2), 1);
        Check.same("slot 6", y.process(6, 2), 1);
        Check.same("slot 7 alone", y.step(4), 4);
        Check.showed("slot 7", y, 'y', 'y');
    }

    private static void allSlotsInOrder() {
        JobTerminal x = new JobTerminal();
        Check.write(x, 0, 8, 7);
        for (int i = 0; i < 4; i++) {
            x.launch(0, 0, true);
        }
        for (int slot = 0; slot < 8; slot++) {
            Check.same("line of slot " + slot, x.process(slot, 2), 0);
            Check.same("step", x.step(1), 1);
            Check.same("line of slot " + slot, x.process(slot, 2), 1);
        }
    }

    private static void orderIsKeptBetweenCalls() {
        JobTerminal x = new JobTerminal();
        Check.write(x, 0, 4, 0);
        Check.write(x, 1, 11, 1, 4, 0);
        x.launch(1, -1, true);
        x.launch(1, -1, true);
        x.launch(1, -1, true);
        x.step(1);
        Check.same("slot 0", x.process(0, 2), 1);
        x.step(1);
        Check.same("slot 1", x.process(1, 2), 1);
        Check.same("not slot 0", x.process(0, 2), 1);
        x.step(2);
        Check.same("slot 2", x.process(2, 2), 1);
        Check.same("slot 0 again", x.process(0, 2), 0);
        Check.same("a call of no step", x.step(0), -1);
        x.step(1);
        Check.same("slot 1 again", x.process(1, 2), 0);
        // a freed slot is still where the search begins
        x.send(1, 3);
        x.report();
        x.launch(0, -1, true);
        x.step(1);
        Check.same("slot 2 again", x.process(2, 2), 0);
    }

    private static void ending() {
        JobTerminal x = running(false, 10, 4, 0, 0x7F1FF);
        x.step(64);
        Check.slot("ended", x, 0, 3, 0, 1, 4, 0, 0, 0, 0, 255);
        JobTerminal y = running(false, 0, -2);
        Check.same("steps", y.step(64), 1);
        Check.slot("ended", y, 0, 3, 0, 0, 0, 0, 0, 0, 0, 254);
        Check.same("foreground", y.foreground(), -1);
        Check.same("report", y.report(), 3);
    }

    private static void writing() {
        JobTerminal x = running(false, 1, 65, 1, 200, 1, -1, 1, 10, 1, 13, 1, 3);
        Check.same("steps", x.step(6), 6);
        Check.same("shown", x.shown(), 7);
        Check.showed("codes", x, 65, 72, 127, 13, 10, 13, 3);
        Check.same("line", x.process(0, 2), 6);
        Check.same("register", x.process(0, 3), 0);
        JobTerminal y = running(false, 1, 10, 1, 128 + 10);
        y.flags(31);
        y.step(2);
        Check.same("without FEED", y.shown(), 2);
        Check.showed("without FEED", y, 10, 10);
        JobTerminal z = running(false, 1, 65, 1, 10);
        z.flags(32);
        z.step(2);
        Check.showed("without ECHO", z, 65, 13, 10);
    }

    private static void writingTheRegister() {
        JobTerminal x = running(false, 3, 7, 10, 66, 3, 0, 10, 128 + 67, 3, 0, 10, -1, 3, 0, 10, 10, 3, 0);
        Check.same("steps", x.step(9), 9);
        Check.same("shown", x.shown(), 5);
        Check.showed("codes", x, 0, 66, 67, 13, 10);
        Check.same("line", x.process(0, 2), 9);
        JobTerminal y = running(false, 10, Integer.MIN_VALUE, 3, 65, 3, 65);
        Check.same("steps", y.step(3), 3);
        Check.same("shown", y.shown(), 0);
        // nothing is written, so nothing fails and nothing waits
        JobTerminal z = new JobTerminal();
        Check.write(z, 0, 10, -1, 3, 0, 4, 1);
        Check.write(z, 1, 0, 0);
        z.hang();
        z.launch(0, 1, true);
        z.flags(63);
        z.launch(0, -1, true);
        Check.same("no failure", z.step(64), 64);
        Check.same("state", z.process(2, 0), 1);
    }

    private static void jumping() {
        JobTerminal x = running(false, 4, 18, 0, 1, 5, 7, 10, -1, 5, 7 + 32, 0, 2, 0, 3, 10, 0, 5, 3, 0, 9);
        x.step(1);
        Check.same("18 is 2", x.process(0, 2), 2);
        x.step(1);
        Check.same("no jump at 0", x.process(0, 2), 3);
        x.step(2);
        Check.same("a jump below 0", x.process(0, 2), 7);
        x.step(2);
        Check.same("no jump at 0", x.process(0, 2), 9);
        x.step(1);
        Check.same("code", x.process(0, 8), 9);
        JobTerminal y = running(false, 10, -1, 5, -1);
        y.step(2);
        Check.same("-1 is 15", y.process(0, 2), 15);
        JobTerminal z = running(false, 4, -16);
        z.step(1);
        Check.same("-16 is 0", z.process(0, 2), 0);
    }

    private static void blocking() {
        JobTerminal x = running(false, 6, -1, 6, 0x7FFFFC00, 6, 2 + 8, 9, 1, 6, 4, 0, 0);
        x.step(1);
        Check.same("all that can be", x.process(0, 5), 919);
        x.step(1);
        Check.same("none that is there", x.process(0, 5), 0);
        x.step(2);
        Check.slot("1 is pending", x, 0, 1, 0, 4, 0, 2, 2, 0);
        x.step(1);
        Check.slot("1 acts", x, 0, 3, 0, 5, 0, 0, 4, 0, 0, 129);
        Check.same("report", x.report(), 3);
    }

    private static void blockedSignalsActLeastFirst() {
        JobTerminal x = running(false, 6, 919, 9, 9, 9, 7, 9, 8, 6, 256, 0, 5);
        Check.same("until it is stopped", x.step(9), 5);
        Check.slot("7 acts, and 9 waits", x, 0, 2, 0, 5, 0, 512 + 256, 256, 0, 0, 0);
        Check.same("job", x.job(0), 2);
        Check.same("foreground", x.foreground(), -1);
        Check.same("front", x.front(0), 1);
        Check.same("nothing waits", x.process(0, 4), 0);
        x.step(1);
        Check.same("code", x.process(0, 8), 5);
        for (int signal : new int[] {0, 1, 2, 4, 7, 8, 9}) {
            JobTerminal z = running(true, 6, 1 << signal, 9, signal, 6, 919 - (1 << signal), 4, 3);
            z.step(2);
            Check.same("pending", z.process(0, 4), 1 << signal);
            z.step(1);
            Check.slot("acts when it is blocked no more", z, 0, signal < 5 ? 3 : 2, 0, 3, 0, 0,
                    919 - (1 << signal), 0, 0, signal < 5 ? 128 + signal : 0);
        }
        JobTerminal y = running(false, 6, 919, 9, 4, 9, 7, 9, 0, 6, 1, 0, 5);
        y.step(9);
        Check.slot("4 acts before 7", y, 0, 3, 0, 5, 0, 128 + 1, 1, 0, 0, 132);
    }

    private static void ignoring() {
        JobTerminal x = running(false, 6, 919, 9, 1, 9, 2, 9, 7, 7, 2 + 128, 9, 7, 7, -1, 7, 1 << 10);
        x.step(4);
        Check.same("pending", x.process(0, 4), 134);
        x.step(1);
        Check.slot("ignored", x, 0, 1, 0, 5, 0, 4, 919, 130);
        x.step(1);
        Check.same("an ignored one", x.process(0, 4), 4);
        x.step(1);
        Check.slot("all that can be", x, 0, 1, 0, 7, 0, 0, 919, 919);
        x.step(1);
        Check.same("none that is there", x.process(0, 6), 0);
    }

    private static void napping() {
        JobTerminal x = running(false, 8, 2, 8, 15, 8, 8, 1, 65);
        Check.same("one step", x.step(9), 1);
        Check.slot("a nap", x, 0, 1, 0, 1, 0, 0, 0, 0, 2, 0);
        x.tick();
        Check.same("one too many", x.step(9), 0);
        x.tick();
        Check.same("goes on", x.step(9), 1);
        Check.same("15 is 7", x.process(0, 7), 7);
        for (int i = 0; i < 7; i++) {
            Check.same("naps", x.step(1), 0);
            x.tick();
        }
        Check.same("8 is 0", x.step(2), 2);
        Check.same("job runs while it naps", x.job(0), 1);
    }

    private static void signallingItself() {
        for (int signal = 0; signal < 16; signal++) {
            JobTerminal x = new JobTerminal();
            Check.write(x, 0, 9, 16 + signal);
            Check.write(x, 1, 4, 0);
            x.launch(0, 1, false);
            Check.same("step", x.step(1), 1);
            int state = signal < 5 ? 3 : signal > 5 && signal < 10 ? 2 : 1;
            int code = signal < 5 ? 128 + signal : 0;
            Check.slot("signal " + signal, x, 0, state, 0, 1, 0, 0, 0, 0, 0, code);
            Check.slot("the other", x, 1, 1, 0, 0, 0, 0, 0, 0, 0, 0);
        }
        JobTerminal x = running(true, 6, 128, 9, 7, 9, 5, 9, -10);
        x.step(2);
        Check.same("pending", x.process(0, 4), 128);
        x.step(1);
        Check.same("5", x.process(0, 4), 0);
        x.step(1);
        Check.same("-10 is 6", x.process(0, 0), 2);
    }

    private static void numbers() {
        JobTerminal x = running(false, 10, Integer.MAX_VALUE, 11, 1, 11, -1, 10, 0, 11, -3);
        x.step(1);
        Check.same("10", x.process(0, 3), Integer.MAX_VALUE);
        x.step(1);
        Check.same("11 wraps", x.process(0, 3), Integer.MIN_VALUE);
        x.step(1);
        Check.same("and back", x.process(0, 3), Integer.MAX_VALUE);
        x.step(2);
        Check.same("below 0", x.process(0, 3), -3);
        Check.same("line", x.process(0, 2), 5);
    }

    private static void lineSixteen() {
        JobTerminal x = new JobTerminal();
        Check.write(x, 0, 4, 15);
        x.program(0, 15, 10, 9);
        x.program(1, 0, 0, 7);
        x.launch(0, -1, false);
        Check.same("steps", x.step(2), 2);
        Check.slot("at line 16", x, 0, 1, 0, 16, 9);
        Check.same("the last step", x.step(2), 1);
        Check.slot("ended there", x, 0, 3, 0, 16, 9, 0, 0, 0, 0, 0);
    }

    private static void readingFromThePipe() {
        JobTerminal x = new JobTerminal();
        Check.write(x, 0, 1, 65, 1, 66, 8, 1, 0, 0);
        Check.write(x, 1, 2, 0, 4, 0);
        Check.type(x, 'q', 10);
        x.launch(0, 1, true);
        Check.same("one is written", x.step(1), 1);
        Check.same("held", x.held(2), 1);
        x.step(1);
        Check.same("65", x.process(1, 3), 65);
        Check.same("held", x.held(2), 0);
        Check.same("until the pipe is empty", x.step(64), 5);
        Check.same("66", x.process(1, 3), 66);
        Check.same("it waits", x.process(1, 2), 0);
        x.tick();
        Check.same("the first ends, then -1", x.step(2), 2);
        Check.same("-1", x.process(1, 3), -1);
        Check.same("-1 again and again", x.step(64), 64);
        Check.same("the queue stays", x.held(1), 2);

        // a first process that is stopped has not ended, and what it left can be read when it has
        JobTerminal y = new JobTerminal();
        Check.write(y, 0, 1, 65, 1, 66, 9, 6);
        Check.write(y, 1, 8, 1, 2, 0, 2, 0, 2, 0);
        y.launch(0, 1, true);
        y.step(4);
        y.tick();
        Check.same("two, and then it waits", y.step(9), 2);
        Check.same("66", y.process(1, 3), 66);

        JobTerminal z = new JobTerminal();
        Check.write(z, 0, 1, 65, 1, 66, 0, 6);
        Check.write(z, 1, 8, 1, 2, 0, 2, 0, 2, 0);
        z.launch(0, 1, true);
        z.step(4);
        z.tick();
        z.step(1);
        Check.same("65", z.process(1, 3), 65);
        z.step(1);
        Check.same("66", z.process(1, 3), 66);
        z.step(1);
        Check.same("-1", z.process(1, 3), -1);
    }

    private static void writingToThePipe() {
        JobTerminal x = new JobTerminal();
        Check.write(x, 0, 11, 1, 3, 0, 4, 0);
        Check.write(x, 1, 8, 1, 2, 0, 3, 0, 0, 0);
        x.launch(0, 1, true);
        Check.same("three steps for each of four, one for a fifth, and a nap", x.step(64), 14);
        Check.same("it waits", x.process(0, 2), 1);
        Check.same("held", x.held(2), 4);
        x.tick();
        Check.same("reads 1, writes 5", x.step(2), 2);
        Check.same("1", x.process(1, 3), 1);
        Check.same("held", x.held(2), 4);
        Check.same("line", x.process(0, 2), 2);
        Check.same("nothing shown", x.shown(), 0);
        x.step(1);
        Check.showed("the second writes to the terminal", x, 1);
        Check.same("till a write fails", x.step(64), 4);
        Check.slot("failed", x, 0, 1, 0, 2, -2);
        Check.same("the pipe stays", x.held(2), 4);
        Check.slot("ended", x, 1, 3, 0, 3, 1);

        // a register of 0 is written, and waits for room too
        JobTerminal z = new JobTerminal();
        Check.write(z, 0, 3, 0, 4, 0);
        Check.write(z, 1, 8, 7);
        z.launch(0, 1, true);
        Check.same("two steps for each of four, and a nap", z.step(64), 9);
        Check.slot("it waits", z, 0, 1, 0, 0, 0);
        Check.same("held", z.held(2), 4);

        // a stopped second process has not ended
        JobTerminal y = new JobTerminal();
        Check.write(y, 0, 1, 65, 4, 0);
        Check.write(y, 1, 9, 6);
        y.launch(0, 1, true);
        Check.same("it waits", y.step(64), 9);
        Check.same("register", y.process(0, 3), 0);
        Check.same("held", y.held(2), 4);
    }

    private static void pipeRunsRound() {
        JobTerminal x = new JobTerminal();
        Check.write(x, 0, 11, 1, 3, 0, 4, 0);
        Check.write(x, 1, 2, 0, 3, 0, 4, 0);
        x.flags(15);
        x.launch(0, 1, true);
        for (int i = 0; i < 9; i++) {
            Check.same("step(64)", x.step(64), 64);
        }
        int shown = x.shown();
        Check.same("most came through", shown > 80, true);
        for (int k = 0; k < 80; k++) {
            Check.same("in order", x.screen(k), shown - k & 127);
        }
    }

    private static void readingFromTheTerminal() {
        JobTerminal x = running(false, 2, 0, 4, 0);
        Check.same("it waits", x.step(9), 0);
        Check.same("line", x.process(0, 2), 0);
        Check.type(x, 'a');
        Check.same("it waits for the line", x.step(9), 0);
        Check.type(x, 'b', 10);
        Check.same("a", x.step(1), 1);
        Check.same("a", x.process(0, 3), 97);
        Check.same("held", x.held(1), 2);
        Check.same("the rest", x.step(9), 5);
        Check.same("10", x.process(0, 3), 10);
        Check.type(x, 4);
        x.step(1);
        Check.same("-1", x.process(0, 3), -1);
        // the first of two reads from the terminal
        JobTerminal y = new JobTerminal();
        Check.write(y, 0, 2, 0, 3, 0, 4, 0);
        Check.write(y, 1, 2, 0, 3, 0, 4, 0);
        y.flags(1);
        Check.type(y, 'x', 'y', 4);
        y.launch(0, 1, false);
        Check.same("both numbers", y.step(64), 12);
        Check.showed("through", y, 'x', 'y');
    }

    private static void readingBehind() {
        JobTerminal x = running(true, 2, 0, 4, 0);
        Check.type(x, 'a', 10);
        Check.same("8 stops it", x.step(9), 1);
        Check.slot("stopped", x, 0, 2, 0, 0, 0, 0, 0, 0, 0, 0);
        Check.same("held", x.held(1), 2);
        Check.same("report", x.report(), 2);
        x.back(0);
        Check.same("again", x.step(9), 1);
        x.front(0);
        Check.same("reads", x.step(9), 4);
        Check.same("10", x.process(0, 3), 10);

        JobTerminal y = running(true, 6, 256, 2, 0, 6, 0, 7, 256, 2, 0, 7, 0, 2, 0);
        Check.type(y, 'a', 10);
        Check.same("blocked: it fails", y.step(9), 2);
        Check.slot("failed", y, 0, 1, 0, 2, -2, 0, 256, 0);
        Check.same("ignored: it fails", y.step(9), 3);
        Check.slot("failed", y, 0, 1, 0, 5, -2, 0, 0, 256);
        Check.same("neither", y.step(9), 2);
        Check.slot("stopped", y, 0, 2, 0, 6, -2);
        Check.same("held", y.held(1), 2);
        // others than 8 count not
        JobTerminal z = running(true, 6, 919 - 256, 7, 919 - 256, 2, 0);
        Check.same("stopped", z.step(9), 3);
        Check.slot("stopped", z, 0, 2, 0, 2, 0, 0, 663, 663);
    }

    private static void readingBehindInAPair() {
        JobTerminal x = new JobTerminal();
        Check.write(x, 0, 10, 0, 2, 0);
        Check.write(x, 1, 6, 256, 4, 1);
        x.launch(0, 1, true);
        Check.same("steps", x.step(3), 3);
        Check.slot("first", x, 0, 2, 0, 1, 0);
        Check.slot("second", x, 1, 1, 0, 1, 0, 256, 256);
        Check.same("job", x.job(0), 1);
        JobTerminal y = new JobTerminal();
        Check.write(y, 0, 2, 0);
        y.launch(0, 1, true);
        Check.same("steps", y.step(3), 1);
        Check.same("job", y.job(0), 2);
        Check.slot("second", y, 1, 2, 0, 0, 0, 0);
    }

    private static void writingBehind() {
        JobTerminal x = running(true, 1, 65, 4, 0);
        Check.same("without GUARD", x.step(2), 2);
        Check.showed("shown", x, 65);
        x.flags(63);
        Check.same("9 stops it", x.step(9), 1);
        Check.slot("stopped", x, 0, 2, 0, 0, 0, 0, 0, 0, 0, 0);
        Check.same("shown", x.shown(), 1);
        Check.same("report", x.report(), 2);
        x.front(0);
        Check.same("before", x.step(2), 2);
        Check.same("shown", x.shown(), 2);
        JobTerminal y = running(true, 6, 512, 1, 65, 6, 0, 7, 512, 1, 66, 7, 256, 3, 0);
        y.flags(16);
        Check.same("blocked or ignored: shown", y.step(6), 6);
        Check.same("shown", y.shown(), 2);
        Check.same("then stopped", y.step(6), 1);
        Check.slot("stopped", y, 0, 2, 0, 6, 0, 0, 0, 256);
        JobTerminal z = running(false, 10, 65, 3, 0);
        z.flags(16);
        Check.same("before, with GUARD", z.step(2), 2);
        Check.same("shown", z.shown(), 1);
    }

    private static void writingBehindInAPair() {
        JobTerminal x = new JobTerminal();
        Check.write(x, 0, 7, 512, 1, 65, 4, 2);
        Check.write(x, 1, 2, 0, 3, 0);
        x.flags(63);
        x.launch(0, 1, true);
        Check.same("steps", x.step(5), 5);
        Check.slot("first ignores it", x, 0, 1, 0, 2, 0, 0, 0, 512);
        Check.slot("second", x, 1, 2, 0, 1, 65);
        Check.same("shown", x.shown(), 0);
        Check.same("job", x.job(0), 1);
        JobTerminal y = new JobTerminal();
        Check.write(y, 0, 10, 1, 4, 1);
        Check.write(y, 1, 1, 66);
        y.flags(63);
        y.launch(0, 1, true);
        Check.same("steps", y.step(9), 2);
        Check.same("first is sent it too", y.process(0, 0), 2);
        Check.same("job", y.job(0), 2);
    }

    private static void failuresEndTheCall() {
        JobTerminal x = new JobTerminal();
        Check.write(x, 0, 4, 0);
        Check.write(x, 1, 10, 7, 1, 65, 4, 1);
        x.hang();
        x.launch(0, -1, true);
        x.launch(1, -1, true);
        Check.same("with the failed one", x.step(64), 4);
        Check.slot("failed", x, 1, 1, 1, 2, -2);
        Check.same("then the other, a jump", x.step(2), 2);
        Check.same("and again", x.step(64), 2);
        Check.same("code", x.process(1, 8), 0);
    }

    private static void stopsDoNotEndTheCall() {
        JobTerminal x = new JobTerminal();
        Check.write(x, 0, 2, 0);
        Check.write(x, 1, 1, 65);
        Check.write(x, 2, 4, 0);
        x.flags(63);
        x.launch(0, -1, true);
        x.launch(1, -1, true);
        x.launch(2, -1, true);
        Check.same("8 and 9 are sent, and the third goes on", x.step(20), 20);
        Check.same("stopped by 8", x.job(0), 2);
        Check.same("stopped by 9", x.job(1), 2);
    }

    private static void statesAreComparedBehindEachStep() {
        JobTerminal x = new JobTerminal();
        Check.write(x, 0, 9, 6, 2, 0);
        Check.write(x, 1, 9, 6);
        x.launch(0, 1, false);
        Check.type(x, 'a', 10);
        x.step(1);
        Check.same("still before", x.foreground(), 0);
        x.step(1);
        Check.same("both are stopped", x.foreground(), -1);
        Check.same("report", x.report(), 2);
        // a job that ended in a call is not before for the steps behind it
        JobTerminal y = new JobTerminal();
        Check.write(y, 0, 0, 0);
        Check.write(y, 1, 10, 1, 10, 2, 1, 66);
        y.flags(63);
        y.launch(0, -1, false);
        y.launch(1, -1, true);
        Check.same("steps", y.step(9), 4);
        Check.same("0 is done", y.report(), 3);
        Check.same("1 is stopped", y.report(), 6);
    }
}
