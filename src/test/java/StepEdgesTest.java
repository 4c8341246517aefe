/** The edges of promises 10 and 11 and of the sentences on a step, its ops, the pipe and naps. */
public final class StepEdgesTest {
    private static final int LEAST = Integer.MIN_VALUE;
    private static final int MOST = Integer.MAX_VALUE;
    private static final int MASKABLE = 1023 - 8 - 32 - 64;

    public static void main(String[] args) {
        wrongCounts();
        firstAndLastCount();
        untilNoneCanBeDone();
        untilOneFailed();
        fromSlotZeroAtFirst();
        roundBehindSlotSeven();
        theSameSlotAgain();
        onlyReadyOnes();
        waitingOnesArePassedOver();
        endingCodes();
        writtenCodes();
        registerAtZero();
        jumpTargets();
        jumpBelowZero();
        blockedNumbers();
        unblockedOnesActLeastFirst();
        ignoredNumbers();
        naps();
        ownSignals();
        ownSignalsMoveTheLine();
        registerWraps();
        emptyPipe();
        fullPipe();
        pipeOfAnEndedReader();
        pipeRunsRound();
        pipeNumbers();
        emptyQueue();
        readingBehind();
        readingBehindStopsTheWholeJob();
        guardedWriting();
        failingAtTheLastLine();
        opsChangeNothingElse();
        ticksAtZero();
        ticksOfStoppedAndEndedOnes();
        Check.end();
    }

    private static JobTerminal running(boolean behind, int... opsAndNumbers) {
        JobTerminal x = new JobTerminal();
        Check.write(x, 0, opsAndNumbers);
        x.launch(0, -1, behind);
        return x;
    }

    private static void wrongCounts() {
        Check.about("NONE when n is not 1 .. 64");
        JobTerminal x = running(false, 1, 65, 4, 0);
        int[] wrong = {LEAST, LEAST + 1, -64, -1, 0, 65, 66, 128, 129, 1 << 30, MOST};
        for (int n : wrong) {
            Check.same("step(" + n + ")", x.step(n), -1);
        }
        Check.same("nothing shown", x.shown(), 0);
        Check.same("line", x.process(0, 2), 0);
        // also when no step could be done
        JobTerminal y = new JobTerminal();
        Check.same("step(0)", y.step(0), -1);
        Check.same("step(65)", y.step(65), -1);
    }

    private static void firstAndLastCount() {
        Check.about("At most n steps, 1 .. 64");
        JobTerminal x = running(false, 11, 1, 4, 0);
        Check.same("step(1)", x.step(1), 1);
        Check.same("register", x.process(0, 3), 1);
        Check.same("step(64)", x.step(64), 64);
        Check.same("register", x.process(0, 3), 33);
        Check.same("step(63)", x.step(63), 63);
        Check.same("register", x.process(0, 3), 64);
    }

    private static void untilNoneCanBeDone() {
        Check.about("until none can be done");
        JobTerminal none = new JobTerminal();
        Check.same("no process", none.step(64), 0);
        JobTerminal x = running(false, 10, 1, 10, 2, 0, 0);
        Check.same("three steps", x.step(64), 3);
        Check.same("an ended one", x.step(64), 0);
        JobTerminal y = running(false, 10, 1, 2, 0);
        Check.same("until it waits", y.step(64), 1);
        Check.same("it waits", y.step(64), 0);
        JobTerminal z = running(false, 8, 1, 4, 1);
        Check.same("until it naps", z.step(64), 1);
        Check.same("it naps", z.step(1), 0);
    }

    private static void untilOneFailed() {
        Check.about("or the op of one failed: how many were (that one, too)");
        JobTerminal x = running(true, 7, 256, 2, 0, 2, 0, 4, 2);
        Check.same("the second step fails", x.step(64), 2);
        Check.same("the first step fails", x.step(64), 1);
        Check.same("the last step of n fails", x.step(2), 2);
        Check.same("register", x.process(0, 3), -2);
        JobTerminal y = running(true, 7, 256, 10, 1, 2, 0, 4, 2);
        Check.same("none of n fails", y.step(2), 2);
        Check.same("the next one does", y.step(1), 1);
        Check.same("register", y.process(0, 3), -2);
    }

    private static void fromSlotZeroAtFirst() {
        Check.about("looked for .. from 0 at first");
        JobTerminal x = new JobTerminal();
        Check.write(x, 0, 11, 1, 4, 0);
        Check.same("no step yet", x.step(5), 0);
        x.launch(0, 0, true);
        x.step(1);
        Check.same("slot 0", x.process(0, 3), 1);
        Check.same("not slot 1", x.process(1, 3), 0);
    }

    private static void roundBehindSlotSeven() {
        Check.about("looked for from the one behind the slot that did the step before (.. and behind 7)");
        JobTerminal x = new JobTerminal();
        Check.write(x, 0, 11, 1, 4, 0);
        for (int job = 0; job < 4; job++) {
            x.launch(0, 0, true);
        }
        Check.same("seven steps", x.step(7), 7);
        Check.same("slot 7 did none", x.process(7, 3), 0);
        x.step(1);
        Check.same("slot 7 did the eighth", x.process(7, 3), 1);
        Check.same("slot 0 is at its jump", x.process(0, 2), 1);
        x.step(1);
        Check.same("slot 0 did the ninth", x.process(0, 2), 0);
        Check.same("slot 1 did not", x.process(1, 2), 1);
    }

    private static void theSameSlotAgain() {
        Check.about("looked for from the one behind the slot that did the step before");
        // the slot itself is the last one that is looked at
        for (int alone = 0; alone < 8; alone++) {
            JobTerminal x = new JobTerminal();
            Check.write(x, 0, 4, 0);
            Check.write(x, 1, 8, 7);
            for (int job = 0; job < 4; job++) {
                x.launch(alone == 2 * job ? 0 : 1, alone == 2 * job + 1 ? 0 : 1, true);
            }
            Check.same("all, then one alone", x.step(64), 64);
            Check.same("it goes on", x.step(1), 1);
            Check.same("line", x.process(alone, 2), 0);
            Check.same("nap", x.process(alone, 7), 0);
        }
    }

    private static void onlyReadyOnes() {
        Check.about("A STEP is done by the ready process");
        JobTerminal x = new JobTerminal();
        Check.write(x, 0, 11, 1, 4, 0);
        x.launch(0, -1, true);
        x.launch(0, -1, true);
        x.launch(0, -1, true);
        x.send(0, 6);
        x.send(2, 3);
        Check.same("steps", x.step(10), 10);
        Check.same("a stopped one", x.process(0, 3), 0);
        Check.same("a ready one", x.process(1, 3), 5);
        Check.same("an ended one", x.process(2, 3), 0);
    }

    private static void waitingOnesArePassedOver() {
        Check.about("whose op CAN GO ON");
        JobTerminal x = new JobTerminal();
        Check.write(x, 0, 2, 0);
        Check.write(x, 1, 11, 1, 4, 0);
        x.launch(0, -1, false);
        x.launch(0, 0, true);
        x.launch(1, -1, true);
        x.step(1);
        Check.same("the job behind is stopped by its read", x.job(1), 2);
        Check.same("steps of the last one", x.step(10), 10);
        Check.same("register", x.process(3, 3), 5);
        Check.slot("it waits at its line", x, 0, 1, 0, 0, 0, 0, 0, 0, 0, 0);
    }

    private static void endingCodes() {
        Check.about("0: it ends with the code x & 255, its line stays");
        int[] numbers = {0, 1, 127, 128, 255, 256, 257, -1, -256, LEAST, MOST};
        int[] codes = {0, 1, 127, 128, 255, 0, 1, 255, 0, 0, 255};
        for (int i = 0; i < numbers.length; i++) {
            JobTerminal x = running(false, 10, 3, 0, numbers[i]);
            Check.same("steps", x.step(64), 2);
            Check.slot("x " + numbers[i], x, 0, 3, 0, 1, 3, 0, 0, 0, 0, codes[i]);
        }
    }

    private static void writtenCodes() {
        Check.about("1: it writes x & 127");
        int[] numbers = {0, 127, 128, 129, 255, -1, -128, LEAST, MOST};
        int[] codes = {0, 127, 0, 1, 127, 127, 0, 0, 127};
        for (int i = 0; i < numbers.length; i++) {
            JobTerminal x = running(false, 1, numbers[i]);
            x.step(1);
            Check.same("shown", x.shown(), 1);
            Check.same("x " + numbers[i], x.screen(0), codes[i]);
        }
    }

    private static void registerAtZero() {
        Check.about("3: it writes register & 127, but nothing if the register is below 0");
        int[] numbers = {0, 127, 128, MOST, -1, LEAST, -128};
        int[] codes = {0, 127, 0, 127, -1, -1, -1};
        for (int i = 0; i < numbers.length; i++) {
            JobTerminal x = running(false, 10, numbers[i], 3, 65);
            Check.same("steps", x.step(2), 2);
            Check.same("shown", x.shown(), codes[i] < 0 ? 0 : 1);
            Check.same("register " + numbers[i], x.screen(0), codes[i]);
            Check.same("line", x.process(0, 2), 2);
        }
        // what writes nothing neither waits for a full pipe, nor fails, nor is stopped
        JobTerminal y = new JobTerminal();
        Check.write(y, 0, 1, 65, 1, 65, 1, 65, 1, 65, 10, -1, 3, 0, 4, 5);
        Check.write(y, 1, 8, 7);
        y.launch(0, 1, true);
        Check.same("a full pipe", y.step(64), 64);
        y.send(0, 3);
        y.report();
        Check.write(y, 1, 0, 0);
        Check.write(y, 0, 10, -1, 3, 0, 4, 1);
        y.launch(0, 1, true);
        Check.same("an ended reader", y.step(64), 64);
        y.flags(63);
        y.hang();
        y.launch(0, -1, true);
        Check.same("a terminal that hangs", y.step(64), 64);
    }

    private static void jumpTargets() {
        Check.about("4: its line is x & 15");
        int[] numbers = {0, 15, 16, 17, 31, -1, -16, LEAST, MOST};
        int[] lines = {0, 15, 0, 1, 15, 15, 0, 0, 15};
        for (int i = 0; i < numbers.length; i++) {
            JobTerminal x = running(false, 10, 0, 4, numbers[i]);
            x.step(2);
            Check.same("x " + numbers[i], x.process(0, 2), lines[i]);
            JobTerminal y = running(false, 10, -1, 5, numbers[i]);
            y.step(2);
            Check.same("5 with x " + numbers[i], y.process(0, 2), lines[i]);
        }
    }

    private static void jumpBelowZero() {
        Check.about("5: its line is x & 15 if the register is below 0");
        int[] numbers = {LEAST, -2, -1, 0, 1, MOST};
        for (int number : numbers) {
            JobTerminal x = running(false, 10, number, 5, 9);
            x.step(2);
            Check.same("register " + number, x.process(0, 2), number < 0 ? 9 : 2);
            Check.same("stays", x.process(0, 3), number);
        }
        JobTerminal y = new JobTerminal();
        Check.write(y, 0, 4, 15);
        y.program(0, 15, 5, 3);
        y.launch(0, -1, true);
        y.step(2);
        Check.same("no jump at the last line", y.process(0, 2), 16);
    }

    private static void blockedNumbers() {
        Check.about("6: BLOCKED becomes x, without 3, 5, 6 and numbers beyond 9");
        int[] numbers = {0, 1, 512, 1023, 1024, 1 << 31, -1, LEAST, MOST, 8, 32, 64, 104, -1024};
        int[] sets = {0, 1, 512, MASKABLE, 0, 0, MASKABLE, 0, MASKABLE, 0, 0, 0, 0, 0};
        for (int i = 0; i < numbers.length; i++) {
            JobTerminal x = running(false, 6, 1 + 512, 6, numbers[i]);
            x.step(2);
            Check.slot("x " + numbers[i], x, 0, 1, 0, 2, 0, 0, sets[i], 0, 0, 0);
        }
    }

    private static void unblockedOnesActLeastFirst() {
        Check.about("then its pending signals that are not blocked act, the least first, as long as it is ready");
        // 1 stays blocked, 7 stops it, 9 waits though it is blocked no more
        JobTerminal x = running(true, 6, -1, 9, 9, 9, 7, 9, 1, 6, 2, 0, 0);
        Check.same("steps", x.step(64), 5);
        Check.slot("stopped by 7", x, 0, 2, 0, 5, 0, 512 + 2, 2, 0, 0, 0);
        // an ending one before a stopping one
        JobTerminal y = running(true, 6, -1, 9, 7, 9, 4, 9, 0, 6, 1, 0, 0);
        Check.same("steps", y.step(64), 5);
        Check.slot("ended by 4", y, 0, 3, 0, 5, 0, 128 + 1, 1, 0, 0, 132);
        // none is pending, or none is let in
        JobTerminal z = running(true, 6, -1, 9, 4, 6, 16, 4, 3);
        Check.same("steps", z.step(64), 64);
        Check.slot("ready", z, 0, 1, 0, 3, 0, 16, 16, 0, 0, 0);
    }

    private static void ignoredNumbers() {
        Check.about("7: IGNORED becomes x likewise, and those are pending no more");
        int[] numbers = {0, 1, 512, 1023, 1024, -1, LEAST, MOST, 8, 32, 64, 104, -1024};
        int[] sets = {0, 1, 512, MASKABLE, 0, MASKABLE, 0, MASKABLE, 0, 0, 0, 0, 0};
        for (int i = 0; i < numbers.length; i++) {
            JobTerminal x = running(false, 7, 1 + 512, 7, numbers[i]);
            x.step(2);
            Check.slot("x " + numbers[i], x, 0, 1, 0, 2, 0, 0, 0, sets[i], 0, 0);
        }
        JobTerminal y = running(true, 6, -1, 9, 0, 9, 9, 9, 4, 7, 16 + 512, 7, 0);
        y.step(5);
        Check.slot("only those", y, 0, 1, 0, 5, 0, 1, MASKABLE, 528, 0, 0);
        y.step(1);
        Check.slot("they do not come back", y, 0, 1, 0, 6, 0, 1, MASKABLE, 0, 0, 0);
    }

    private static void naps() {
        Check.about("8: its nap becomes x & 7 .. A process with a nap above 0 cannot go on");
        int[] numbers = {0, 1, 7, 8, 9, 15, -1, -8, LEAST, MOST};
        int[] naps = {0, 1, 7, 0, 1, 7, 7, 0, 0, 7};
        for (int i = 0; i < numbers.length; i++) {
            JobTerminal x = running(false, 8, numbers[i], 11, 1);
            Check.same("x " + numbers[i], x.step(2), naps[i] == 0 ? 2 : 1);
            Check.same("nap", x.process(0, 7), naps[i]);
            for (int left = naps[i]; left > 0; left--) {
                Check.same("it naps", x.step(2), 0);
                Check.same("tick", x.tick(), 1);
            }
            Check.same("no nap", x.process(0, 7), 0);
            Check.same("it goes on", x.step(1), 1);
        }
    }

    private static void ownSignals() {
        Check.about("9: it is sent the signal x & 15 (nothing beyond 9)");
        int[] numbers = {9, 10, 11, 12, 13, 14, 15, 16, 19, 25, 26, -1, -6, -7, LEAST, MOST};
        for (int number : numbers) {
            int signal = number & 15;
            JobTerminal x = new JobTerminal();
            Check.write(x, 0, 9, number);
            Check.write(x, 1, 4, 0);
            x.launch(0, 1, true);
            x.step(1);
            int state = signal > 9 || signal == 5 ? 1 : signal > 5 ? 2 : 3;
            Check.slot("x " + number, x, 0, state, 0, 1, 0, 0, 0, 0, 0, state == 3 ? 128 + signal : 0);
            Check.slot("the other of the job", x, 1, 1, 0, 0, 0, 0, 0, 0, 0, 0);
        }
    }

    private static void ownSignalsMoveTheLine() {
        Check.about("Behind an op the line is one further (also behind one by which its process ends or is stopped)");
        JobTerminal x = new JobTerminal();
        Check.write(x, 0, 4, 15);
        x.program(0, 15, 9, 6);
        x.launch(0, -1, true);
        Check.same("steps", x.step(9), 2);
        Check.slot("stopped at the end", x, 0, 2, 0, 16, 0, 0, 0, 0, 0, 0);
        x.send(0, 5);
        Check.same("one more", x.step(9), 1);
        Check.slot("ended", x, 0, 3, 0, 16, 0, 0, 0, 0, 0, 0);
        JobTerminal y = running(true, 9, 3);
        y.step(1);
        Check.slot("ended", y, 0, 3, 0, 1, 0, 0, 0, 0, 0, 131);
        JobTerminal z = running(true, 6, 4, 9, 2, 6, 0);
        Check.same("steps", z.step(9), 3);
        Check.slot("ended by op 6", z, 0, 3, 0, 3, 0, 0, 0, 0, 0, 130);
    }

    private static void registerWraps() {
        Check.about("11: the register grows by x, in ints that wrap");
        int[] from = {MOST, LEAST, MOST, LEAST, -1, 0, 1 << 30};
        int[] by = {1, -1, MOST, LEAST, 1, -1, 1 << 30};
        int[] due = {LEAST, MOST, -2, 0, 0, -1, LEAST};
        for (int i = 0; i < from.length; i++) {
            JobTerminal x = running(true, 10, from[i], 11, by[i]);
            x.step(2);
            Check.same(from[i] + " and " + by[i], x.process(0, 3), due[i]);
            Check.same("line", x.process(0, 2), 2);
        }
    }

    private static void emptyPipe() {
        Check.about("READING from the pipe: .. -1 when it is empty and the first process has ended; it cannot go on"
                + " when it is empty and that has not");
        JobTerminal x = new JobTerminal();
        Check.write(x, 0, 1, 65, 8, 1, 0, 0);
        Check.write(x, 1, 2, 0, 4, 0);
        Check.type(x, 'q', 10);
        x.launch(0, 1, false);
        Check.same("written, read, and the nap", x.step(64), 4);
        Check.slot("it waits", x, 1, 1, 0, 0, 65);
        x.tick();
        Check.same("the first ends", x.step(1), 1);
        Check.same("-1", x.step(1), 1);
        Check.slot("-1", x, 1, 1, 0, 1, -1);
        Check.same("as often as it likes", x.step(64), 64);
        Check.same("the queue is not touched", x.held(1), 2);

        // a stopped first one has not ended; a killed one has, and what it left is read before -1
        JobTerminal y = new JobTerminal();
        Check.write(y, 0, 1, 66, 9, 6);
        Check.write(y, 1, 8, 1, 2, 0, 4, 1);
        y.launch(0, 1, true);
        y.step(3);
        y.tick();
        Check.same("what there is", y.step(64), 2);
        Check.slot("it waits", y, 1, 1, 0, 1, 66);
        JobTerminal z = new JobTerminal();
        Check.write(z, 0, 1, 66, 0, 0);
        Check.write(z, 1, 8, 1, 2, 0, 2, 0);
        z.launch(0, 1, true);
        z.step(3);
        Check.same("ended", z.process(0, 0), 3);
        z.tick();
        z.step(1);
        Check.same("66 is left", z.process(1, 3), 66);
        z.step(1);
        Check.same("then -1", z.process(1, 3), -1);
    }

    private static void fullPipe() {
        Check.about("WRITING to the pipe: .. it cannot go on when the pipe has 4");
        JobTerminal x = new JobTerminal();
        Check.write(x, 0, 1, 1, 1, 2, 1, 3, 1, 4, 1, 5, 0, 0);
        Check.write(x, 1, 8, 1, 2, 0, 8, 1);
        x.launch(0, 1, true);
        Check.same("four writes and a nap", x.step(64), 5);
        Check.slot("it waits", x, 0, 1, 0, 4, 0);
        Check.same("4", x.held(2), 4);
        x.tick();
        Check.same("a read, the write, a nap, the end", x.step(64), 4);
        Check.same("the oldest", x.process(1, 3), 1);
        Check.same("4", x.held(2), 4);
        Check.same("ended", x.process(0, 0), 3);
    }

    private static void pipeOfAnEndedReader() {
        Check.about("WRITING to the pipe: the op fails, when the second process has ended");
        // with an empty, a part full and a full pipe
        for (int count = 0; count <= 4; count++) {
            JobTerminal x = new JobTerminal();
            for (int line = 0; line < count; line++) {
                x.program(0, line, 1, 65);
            }
            x.program(0, count, 8, 2);
            x.program(0, count + 1, 1, 66);
            Check.write(x, 1, 8, 1, 0, 0);
            x.launch(0, 1, true);
            Check.same("both nap", x.step(64), count + 2);
            x.tick();
            Check.same("the second ends", x.step(64), 1);
            x.tick();
            Check.same("the first fails", x.step(64), 1);
            Check.slot("failed", x, 0, 1, 0, count + 2, -2);
            Check.same("held", x.held(2), count);
        }
        // a stopped second one has not ended
        JobTerminal y = new JobTerminal();
        Check.write(y, 0, 1, 65, 4, 0);
        Check.write(y, 1, 9, 6);
        y.launch(0, 1, true);
        y.step(64);
        Check.slot("it waits", y, 0, 1, 0, 0, 0);
        Check.same("4", y.held(2), 4);
        // a full one that waited fails when the second is killed by itself
        JobTerminal z = new JobTerminal();
        Check.write(z, 0, 1, 65, 4, 0);
        Check.write(z, 1, 8, 1, 9, 3);
        z.launch(0, 1, true);
        z.step(64);
        Check.same("4", z.held(2), 4);
        z.tick();
        Check.same("the kill and the failure", z.step(64), 2);
        Check.slot("failed", z, 0, 1, 0, 1, -2);
        Check.same("4", z.held(2), 4);
    }

    private static void pipeRunsRound() {
        Check.about("READING from the pipe: a number from it, the oldest");
        JobTerminal x = new JobTerminal();
        Check.write(x, 0, 11, 1, 3, 0, 4, 0);
        Check.write(x, 1, 2, 0, 8, 1, 4, 0);
        x.launch(0, 1, true);
        for (int i = 1; i <= 60; i++) {
            x.step(64);
            Check.same("in order", x.process(1, 3), i);
            Check.same("full", x.held(2), 4);
            x.tick();
        }
    }

    private static void pipeNumbers() {
        Check.about("1: it writes x & 127");
        JobTerminal x = new JobTerminal();
        Check.write(x, 0, 1, -1, 1, 128 + 10, 10, 300, 3, 0);
        Check.write(x, 1, 2, 0);
        x.launch(0, 1, true);
        int[] due = {127, 10, 44};
        for (int i = 0; i < 3; i++) {
            x.program(1, i, 2, 0);
        }
        int[] steps = {2, 2, 3};
        for (int i = 0; i < 3; i++) {
            Check.same("steps", x.step(steps[i]), steps[i]);
            Check.same("number", x.process(1, 3), due[i]);
        }
        Check.same("nothing is shown", x.shown(), 0);
    }

    private static void emptyQueue() {
        Check.about("Else the oldest number of the queue; it cannot go on when the queue is empty");
        JobTerminal x = running(false, 2, 0, 4, 0);
        Check.same("empty", x.step(64), 0);
        Check.type(x, 'a');
        Check.same("what is in the edit does not count", x.step(64), 0);
        Check.type(x, 4);
        Check.same("one number", x.step(64), 2);
        Check.same("a", x.process(0, 3), 97);
        Check.same("empty again", x.step(64), 0);
        Check.type(x, 4);
        Check.same("-1 is a number too", x.step(64), 2);
        Check.same("-1", x.process(0, 3), -1);
    }

    private static void readingBehind() {
        Check.about("when its job is not in the foreground: if 8 is blocked or ignored by the process, the op FAILS;"
                + " else its job is sent 8, and the line stays");
        // an empty queue and a full one are the same to a job behind
        for (int ends = 0; ends <= 40; ends += 40) {
            JobTerminal x = running(true, 2, 0);
            Check.typeTimes(x, ends, 4);
            Check.same("steps", x.step(9), 1);
            Check.slot("stopped", x, 0, 2, 0, 0, 0, 0, 0, 0, 0, 0);
            for (int op = 6; op <= 7; op++) {
                JobTerminal y = running(true, op, 256, 2, 0);
                Check.typeTimes(y, ends, 4);
                Check.same("steps", y.step(9), 2);
                Check.slot("failed", y, 0, 1, 0, 2, -2, 0, op == 6 ? 256 : 0, op == 7 ? 256 : 0);
                Check.same("queue", y.held(1), ends);
                JobTerminal z = running(true, op, MASKABLE - 256, 2, 0);
                Check.same("steps", z.step(9), 2);
                Check.same("others do not count", z.process(0, 0), 2);
            }
        }
    }

    private static void readingBehindStopsTheWholeJob() {
        Check.about("its job is sent 8");
        JobTerminal x = new JobTerminal();
        Check.write(x, 0, 2, 0);
        Check.write(x, 1, 4, 0);
        x.launch(0, 1, true);
        Check.same("steps", x.step(9), 1);
        Check.same("first", x.process(0, 0), 2);
        Check.same("second", x.process(1, 0), 2);
        Check.same("untold", x.report(), 2);
        // one that ignores 8 keeps the job running; one that has it blocked has it pending
        JobTerminal y = new JobTerminal();
        Check.write(y, 0, 10, 0, 2, 0);
        Check.write(y, 1, 6, 256, 4, 1);
        y.launch(0, 1, true);
        y.step(3);
        Check.slot("second", y, 1, 1, 0, 1, 0, 256, 256, 0, 0, 0);
        Check.same("told", y.report(), -1);
    }

    private static void guardedWriting() {
        Check.about("Else, with GUARD, when its job is not in the foreground and 9 is neither blocked nor ignored by"
                + " the process: its job is sent 9, and the line stays");
        for (int flags = 0; flags <= 16; flags += 16) {
            for (int behind = 0; behind < 2; behind++) {
                for (int op = 6; op <= 7; op++) {
                    for (int set = 0; set <= 512; set += 512) {
                        JobTerminal x = running(behind == 1, op, set, 1, 65, 4, 2);
                        x.flags(flags);
                        x.step(2);
                        boolean stopped = flags == 16 && behind == 1 && set == 0;
                        Check.same("state", x.process(0, 0), stopped ? 2 : 1);
                        Check.same("line", x.process(0, 2), stopped ? 1 : 2);
                        Check.same("shown", x.shown(), stopped ? 0 : 1);
                        Check.same("register", x.process(0, 3), 0);
                    }
                }
            }
        }
        JobTerminal y = running(true, 7, MASKABLE - 512, 1, 65);
        y.flags(16);
        y.step(2);
        Check.same("others do not count", y.process(0, 0), 2);
        // what goes into the pipe is not guarded
        JobTerminal z = new JobTerminal();
        Check.write(z, 0, 1, 65, 4, 1);
        Check.write(z, 1, 4, 0);
        z.flags(63);
        z.launch(0, 1, true);
        Check.same("steps", z.step(9), 9);
        Check.same("in the pipe", z.held(2), 1);
    }

    private static void failingAtTheLastLine() {
        Check.about("An op that FAILS: the register becomes -2, and the line is one further");
        int[] ops = {1, 2, 3};
        for (int op : ops) {
            JobTerminal x = new JobTerminal();
            Check.write(x, 0, 7, 256, 10, 5, 4, 15);
            x.program(0, 15, op, 65);
            if (op != 2) {
                x.hang();
            }
            x.launch(0, -1, true);
            Check.same("the fourth step fails", x.step(64), 4);
            Check.slot("failed", x, 0, 1, 0, 16, -2);
            Check.same("then it ends", x.step(64), 1);
            Check.same("code", x.process(0, 8), 0);
        }
    }

    private static void opsChangeNothingElse() {
        Check.about("Behind an op the line is one further, if nothing else is said");
        int[] numbers = {-1, 0, 3, 6 + 128, 513};
        for (int register = -7; register <= 7; register += 14) {
            for (int op = 1; op <= 11; op++) {
                for (int x : numbers) {
                    oneOp(register, op, x);
                }
            }
        }
    }

    /** One op of a process that has something everywhere. */
    private static void oneOp(int register, int op, int x) {
        JobTerminal t = running(false, 7, 1, 6, 6, 9, 1, 10, register, op, x);
        t.flags(0);
        Check.type(t, 77);
        Check.same("steps", t.step(5), 5);
        boolean jumps = op == 4 || op == 5 && register < 0;
        int signal = op == 9 ? x & 15 : 15;
        int line = jumps ? x & 15 : 5;
        int value = op == 2 ? 77 : op == 10 ? x : op == 11 ? register + x : register;
        int blocked = op == 6 ? x & MASKABLE : 6;
        int ignored = op == 7 ? x & MASKABLE : 1;
        // 1 is pending: it acts when op 6 lets it in, and is dropped when op 7 ignores it
        boolean letIn = (blocked & 2) == 0;
        int pending = letIn || (ignored & 2) != 0 ? 0 : 2;
        boolean ended = letIn || signal == 3;
        boolean stopped = signal > 5 && signal < 10;
        int code = letIn ? 129 : ended ? 131 : 0;
        Check.slot("op " + op + " with x " + x, t, 0, ended ? 3 : stopped ? 2 : 1, 0, line, value, pending, blocked,
                ignored, op == 8 ? x & 7 : 0, code);
        Check.same("queue", t.held(1), op == 2 ? 0 : 1);
        Check.same("shown", t.shown(), op == 1 || op == 3 && register >= 0 ? 1 : 0);
    }

    private static void ticksAtZero() {
        Check.about("All naps above 0 of processes that are ready are one less. Answers how many these were");
        JobTerminal x = new JobTerminal();
        Check.same("no process", x.tick(), 0);
        Check.write(x, 0, 8, 1, 4, 1);
        for (int job = 0; job < 4; job++) {
            x.launch(0, 0, true);
        }
        Check.same("no nap", x.tick(), 0);
        Check.same("all nap", x.step(64), 8);
        Check.same("all eight", x.tick(), 8);
        Check.same("none is left", x.tick(), 0);
        for (int slot = 0; slot < 8; slot++) {
            Check.same("not below 0", x.process(slot, 7), 0);
        }
    }

    private static void ticksOfStoppedAndEndedOnes() {
        Check.about("All naps above 0 of processes that are ready");
        JobTerminal x = new JobTerminal();
        Check.write(x, 0, 8, 3, 4, 1);
        x.launch(0, -1, true);
        x.launch(0, -1, true);
        x.launch(0, -1, true);
        x.step(64);
        x.send(0, 6);
        x.send(1, 3);
        Check.same("one is ready", x.tick(), 1);
        Check.same("stopped", x.process(0, 7), 3);
        Check.same("ended", x.process(1, 7), 3);
        Check.same("ready", x.process(2, 7), 2);
        x.send(0, 5);
        Check.same("two are ready", x.tick(), 2);
        Check.same("continued", x.process(0, 7), 2);
    }
}
