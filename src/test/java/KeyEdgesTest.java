/** The edges of promises 3 and 4 and of the sentences on flags, edit, queue and keys. */
public final class KeyEdgesTest {
    private static final int LEAST = Integer.MIN_VALUE;
    private static final int MOST = Integer.MAX_VALUE;
    private static final int FIRST_FLAGS = 47;
    private static final int LINES = 1;
    private static final int ECHO = 2;
    private static final int KEYS = 4;
    private static final int RETURN = 8;
    private static final int FEED = 32;

    public static void main(String[] args) {
        flagsAtFirst();
        wrongFlags();
        keysBeyond127();
        firstAndLastKey();
        returnAsNewLine();
        signalKeysWithNoJob();
        signalKeysGoBeforeLines();
        signalKeysWithAllFull();
        signalKeysEmptyAnEditWithoutLines();
        eraseOfAnEmptyEdit();
        eraseOfTheLastCharacter();
        eraseOfAFullEdit();
        endOfAnEmptyEdit();
        endOfAnEditOfOne();
        newLineOfAnEmptyEdit();
        fullEdit();
        queueFullForAnEnd();
        queueFullForAnEditAndEnd();
        queueFullForALine();
        queueFullForAnEmptyLine();
        queueFullWithoutLines();
        fullQueueLeavesTheEditOpen();
        roomAgainBehindARead();
        queueRunsRound();
        echoes();
        rubbingOutAtThirtyTwo();
        rubbingOutTheLastOneFirst();
        feed();
        Check.end();
    }

    private static JobTerminal with(int flags) {
        JobTerminal x = new JobTerminal();
        x.flags(flags);
        return x;
    }

    /** What a job in the foreground reads, one number after the other, until it waits. */
    private static void reads(JobTerminal x, int... due) {
        Check.write(x, 3, 2, 0);
        int job = x.launch(3, -1, false);
        for (int number : due) {
            Check.same("step", x.step(1), 1);
            Check.same("number read", x.process(0, 3), number);
            x.program(3, 1, 4, 0);
            x.step(1);
        }
        Check.same("it waits", x.step(1), 0);
        Check.same("queue", x.held(1), 0);
        x.send(job, 3);
        x.report();
    }

    private static void flagsAtFirst() {
        Check.about("at first all but 16");
        JobTerminal x = new JobTerminal();
        Check.same("flags", x.flags(0), FIRST_FLAGS);
        Check.same("flags", x.flags(63), 0);
        Check.same("flags", x.flags(0), 63);
    }

    private static void wrongFlags() {
        Check.about("NONE when flags is not 0 .. 63");
        JobTerminal x = new JobTerminal();
        int[] wrong = {LEAST, LEAST + 63, -64, -2, -1, 64, 65, 127, 128, 256, 1 << 30, MOST};
        for (int flags : wrong) {
            Check.same("flags(" + flags + ")", x.flags(flags), -1);
        }
        Check.same("as they were", x.flags(63), FIRST_FLAGS);
        Check.same("flags(64)", x.flags(64), -1);
        Check.same("as they were", x.flags(0), 63);
        Check.same("flags(-1)", x.flags(-1), -1);
        Check.same("as they were", x.flags(1), 0);
    }

    private static void keysBeyond127() {
        Check.about("A KEY; false when it is none");
        // among them those whose low bits are those of keys that do something
        int[] wrong = {128, 128 + 3, 128 + 4, 128 + 10, 128 + 13, 128 + 21, 128 + 26, 128 + 28, 255, 256 + 3,
            256 + 97, 0x8000, 0xFF0A, 0xFFFF};
        for (int flags = 0; flags < 64; flags += 7) {
            JobTerminal x = with(flags);
            x.launch(0, -1, false);
            for (int c : wrong) {
                Check.same("key(" + c + ")", x.key((char) c), false);
            }
            Check.same("edit", x.held(0), 0);
            Check.same("queue", x.held(1), 0);
            Check.same("shown", x.shown(), 0);
            Check.same("job", x.job(0), 1);
        }
    }

    private static void firstAndLastKey() {
        Check.about("A KEY c (0 .. 127)");
        JobTerminal x = with(0);
        Check.type(x, 0, 127, 126, 1);
        reads(x, 0, 127, 126, 1);
        JobTerminal y = with(FIRST_FLAGS);
        Check.type(y, 0, 126);
        Check.same("edit", y.held(0), 2);
        Check.type(y, 127);
        Check.same("127 takes one out", y.held(0), 1);
        Check.type(y, 10);
        reads(y, 0, 10);
    }

    private static void returnAsNewLine() {
        Check.about("with RETURN, 13 counts as 10");
        JobTerminal x = with(RETURN);
        Check.type(x, 12, 13, 14, 10);
        reads(x, 12, 10, 14, 10);
        x.flags(0);
        Check.type(x, 13);
        reads(x, 13);
        x.flags(LINES + RETURN);
        Check.type(x, 'a', 13);
        reads(x, 'a', 10);
        x.flags(LINES);
        Check.type(x, 13);
        Check.same("13 in the edit", x.held(0), 1);
        Check.type(x, 10);
        reads(x, 13, 10);
    }

    private static void signalKeysWithNoJob() {
        Check.about("send 1, 2 and 7 to the job in the foreground (if there is one)");
        int[] keys = {3, 28, 26};
        for (int key : keys) {
            JobTerminal x = new JobTerminal();
            Check.write(x, 0, 4, 0);
            x.launch(0, -1, true);
            Check.type(x, 'a', key);
            Check.same("the job behind", x.process(0, 0), 1);
            Check.same("nothing pending", x.process(0, 4), 0);
            Check.same("edit", x.held(0), 0);
            Check.same("queue", x.held(1), 0);
            Check.showed("echo", x, 'a', 94, 64 + key);
            Check.same("told", x.report(), -1);
        }
    }

    private static void signalKeysGoBeforeLines() {
        Check.about("the first of these that holds: with KEYS, 3, 28 and 26");
        int[] keys = {3, 28, 26};
        int[] states = {3, 3, 2};
        for (int i = 0; i < 3; i++) {
            for (int lines = 0; lines < 2; lines++) {
                JobTerminal x = with(KEYS + lines);
                Check.write(x, 0, 4, 0);
                x.launch(0, -1, false);
                Check.type(x, keys[i]);
                Check.same("state behind " + keys[i], x.process(0, 0), states[i]);
                Check.same("edit", x.held(0), 0);
                Check.same("queue", x.held(1), 0);
                Check.same("foreground", x.foreground(), -1);
                // and without KEYS it is a character like others
                JobTerminal y = with(lines);
                Check.write(y, 0, 4, 0);
                y.launch(0, -1, false);
                Check.type(y, keys[i]);
                Check.same("state behind " + keys[i], y.process(0, 0), 1);
                Check.same("edit", y.held(0), lines);
                Check.same("queue", y.held(1), 1 - lines);
            }
        }
        // their neighbours are characters
        JobTerminal z = new JobTerminal();
        z.launch(0, -1, false);
        Check.type(z, 2, 5, 25, 27, 29);
        Check.same("edit", z.held(0), 5);
        Check.same("job", z.job(0), 1);
    }

    private static void signalKeysWithAllFull() {
        Check.about("What there is no room for is REFUSED");
        JobTerminal x = new JobTerminal();
        Check.typeTimes(x, 40, 4);
        Check.typeTimes(x, 20, 'a');
        Check.same("20 and 40", x.held(0) * 100 + x.held(1), 2040);
        Check.type(x, 3);
        Check.same("edit", x.held(0), 0);
        Check.same("queue", x.held(1), 40);
        Check.same("echoed", x.shown(), 22);
    }

    private static void signalKeysEmptyAnEditWithoutLines() {
        Check.about("and the edit becomes empty");
        JobTerminal x = new JobTerminal();
        Check.type(x, 'a', 'b');
        x.flags(KEYS);
        Check.same("edit kept", x.held(0), 2);
        Check.type(x, 28);
        Check.same("edit", x.held(0), 0);
        Check.same("shown", x.shown(), 2);
    }

    private static void eraseOfAnEmptyEdit() {
        Check.about("127 takes the last character of the edit out, if there is one, and 21 all of them");
        JobTerminal x = new JobTerminal();
        Check.type(x, 127, 21, 127);
        Check.same("edit", x.held(0), 0);
        Check.same("queue", x.held(1), 0);
        Check.same("nothing rubbed out", x.shown(), 0);
        Check.type(x, 'a', 10, 127, 21);
        Check.same("the queue stays", x.held(1), 2);
        Check.same("shown", x.shown(), 3);
    }

    private static void eraseOfTheLastCharacter() {
        Check.about("127 takes the last character of the edit out, if there is one, and 21 all of them");
        JobTerminal x = new JobTerminal();
        Check.type(x, 'a', 127);
        Check.same("edit", x.held(0), 0);
        Check.type(x, 127);
        Check.same("shown", x.shown(), 4);
        Check.type(x, 'b', 'c', 127, 'd', 10);
        reads(x, 'b', 'd', 10);
        Check.type(x, 'e', 21, 10);
        reads(x, 10);
    }

    private static void eraseOfAFullEdit() {
        Check.about("127 takes the last character of the edit out, if there is one, and 21 all of them");
        JobTerminal x = new JobTerminal();
        Check.typeTimes(x, 20, 'a');
        Check.type(x, 127);
        Check.same("19 are left", x.held(0), 19);
        Check.same("rubbed out", x.shown(), 23);
        Check.type(x, 'z');
        Check.type(x, 21);
        Check.same("none is left", x.held(0), 0);
        Check.same("all rubbed out", x.shown(), 24 + 60);
        Check.typeTimes(x, 20, 1);
        Check.same("20 low ones", x.shown(), 84 + 40);
        Check.type(x, 21);
        Check.same("all rubbed out twice", x.shown(), 124 + 120);
        Check.typeTimes(x, 20, 'b');
        Check.same("room for 20 again", x.held(0), 20);
    }

    private static void endOfAnEmptyEdit() {
        Check.about("4: if the edit is empty, -1 is put into the queue");
        JobTerminal x = new JobTerminal();
        Check.type(x, 4, 4);
        Check.same("queue", x.held(1), 2);
        Check.same("not echoed", x.shown(), 0);
        reads(x, -1, -1);
    }

    private static void endOfAnEditOfOne() {
        Check.about("4: .. else the edit is put there; it is not echoed");
        JobTerminal x = new JobTerminal();
        Check.type(x, 'a', 4);
        Check.same("queue", x.held(1), 1);
        Check.same("edit", x.held(0), 0);
        Check.same("only a is shown", x.shown(), 1);
        Check.type(x, 4);
        reads(x, 'a', -1);
    }

    private static void newLineOfAnEmptyEdit() {
        Check.about("10 is echoed, and the edit and then 10 are put into the queue");
        JobTerminal x = new JobTerminal();
        Check.type(x, 10);
        Check.same("queue", x.held(1), 1);
        Check.showed("echo", x, 13, 10);
        reads(x, 10);
    }

    private static void fullEdit() {
        Check.about("a character when the edit has 20");
        JobTerminal x = new JobTerminal();
        Check.typeTimes(x, 19, 'a');
        Check.type(x, 'z');
        Check.same("20", x.held(0), 20);
        int[] refused = {'b', 0, 1, 31, 32, 126, 5, 11, 27};
        for (int c : refused) {
            Check.same("key(" + c + ")", x.key((char) c), false);
        }
        Check.same("still 20", x.held(0), 20);
        Check.same("nothing echoed", x.shown(), 20);
        Check.type(x, 10);
        Check.same("21 in the queue", x.held(1), 21);
        Check.type(x, 'c');
        Check.same("room again", x.held(0), 1);
        int[] due = new int[21];
        java.util.Arrays.fill(due, 'a');
        due[19] = 'z';
        due[20] = 10;
        reads(x, due);
    }

    private static void queueFullForAnEnd() {
        Check.about("a number, when the queue would have more than 40");
        JobTerminal x = new JobTerminal();
        Check.typeTimes(x, 39, 4);
        Check.type(x, 4);
        Check.same("40", x.held(1), 40);
        Check.same("a 41st", x.key((char) 4), false);
        Check.same("40", x.held(1), 40);
        Check.same("shown", x.shown(), 0);
    }

    private static void queueFullForAnEditAndEnd() {
        Check.about("the edit, with what goes behind it .. when the queue would have more than 40");
        JobTerminal x = new JobTerminal();
        Check.typeTimes(x, 20, 4);
        Check.typeTimes(x, 20, 'a');
        Check.type(x, 4);
        Check.same("20 and 20 have room", x.held(1), 40);
        Check.same("edit", x.held(0), 0);

        JobTerminal y = new JobTerminal();
        Check.typeTimes(y, 21, 4);
        Check.typeTimes(y, 20, 'a');
        Check.same("21 and 20 have none", y.key((char) 4), false);
        Check.same("edit", y.held(0), 20);
        Check.same("queue", y.held(1), 21);

        JobTerminal z = new JobTerminal();
        Check.typeTimes(z, 40, 4);
        Check.type(z, 'a');
        Check.same("40 and 1 have none", z.key((char) 4), false);
        Check.same("edit", z.held(0), 1);
    }

    private static void queueFullForALine() {
        Check.about("the edit, with what goes behind it .. when the queue would have more than 40");
        JobTerminal x = new JobTerminal();
        Check.typeTimes(x, 19, 4);
        Check.typeTimes(x, 20, 'a');
        Check.type(x, 10);
        Check.same("19, 20 and 1 have room", x.held(1), 40);

        JobTerminal y = new JobTerminal();
        Check.typeTimes(y, 20, 4);
        Check.typeTimes(y, 20, 'a');
        Check.same("20, 20 and 1 have none", y.key((char) 10), false);
        Check.same("nor by 13", y.key((char) 13), false);
        Check.same("edit", y.held(0), 20);
        Check.same("queue", y.held(1), 20);
        Check.same("not echoed", y.shown(), 20);
        Check.type(y, 4);
        Check.same("without 10 they have", y.held(1), 40);
    }

    private static void queueFullForAnEmptyLine() {
        Check.about("the edit, with what goes behind it .. when the queue would have more than 40");
        JobTerminal x = with(LINES + ECHO);
        Check.typeTimes(x, 39, 4);
        Check.type(x, 10);
        Check.same("39 and 1 have room", x.held(1), 40);
        Check.same("echoed", x.shown(), 1);
        Check.same("40 and 1 have none", x.key((char) 10), false);
        Check.same("not echoed", x.shown(), 1);
        Check.same("queue", x.held(1), 40);
    }

    private static void queueFullWithoutLines() {
        Check.about("a number, when the queue would have more than 40");
        JobTerminal x = with(ECHO + FEED + RETURN);
        Check.typeTimes(x, 40, 'a');
        int[] refused = {'a', 0, 3, 4, 10, 13, 21, 26, 28, 127};
        for (int c : refused) {
            Check.same("key(" + c + ")", x.key((char) c), false);
        }
        Check.same("queue", x.held(1), 40);
        Check.same("not echoed", x.shown(), 40);
    }

    private static void fullQueueLeavesTheEditOpen() {
        Check.about("What there is no room for is REFUSED, and nothing of it happens");
        JobTerminal x = new JobTerminal();
        Check.typeTimes(x, 40, 4);
        Check.type(x, 'a', 'b');
        Check.same("edit", x.held(0), 2);
        Check.same("10", x.key((char) 10), false);
        Check.type(x, 127);
        Check.same("edit", x.held(0), 1);
        Check.type(x, 21);
        Check.same("edit", x.held(0), 0);
        Check.same("queue", x.held(1), 40);
    }

    private static void roomAgainBehindARead() {
        Check.about("when the queue would have more than 40");
        JobTerminal x = new JobTerminal();
        Check.write(x, 0, 2, 0, 4, 0);
        Check.typeTimes(x, 40, 4);
        x.launch(0, -1, false);
        for (int i = 0; i < 5; i++) {
            Check.same("refused", x.key((char) 10), false);
            Check.same("a number is read", x.step(2), 2);
            Check.same("39 are left", x.held(1), 39);
            Check.type(x, 10);
            Check.same("40", x.held(1), 40);
        }
    }

    private static void queueRunsRound() {
        Check.about("THE QUEUE one of at most 40 numbers: what can be read .. the oldest number of the queue");
        JobTerminal x = with(0);
        Check.write(x, 0, 2, 0, 4, 0);
        x.launch(0, -1, false);
        int typed = 0;
        int read = 0;
        for (int i = 0; i < 40; i++) {
            Check.type(x, typed++ & 127);
        }
        for (int i = 0; i < 90; i++) {
            x.step(2);
            Check.same("in order", x.process(0, 3), read++ & 127);
            Check.type(x, typed++ & 127);
        }
        Check.same("queue", x.held(1), 40);
        for (int i = 0; i < 40; i++) {
            x.step(2);
            Check.same("in order", x.process(0, 3), read++ & 127);
        }
        Check.same("it waits", x.step(2), 0);
    }

    private static void echoes() {
        Check.about("10 is shown; any other c below 32 as 94 and 64 + c, 127 as 94 and 63; else c is shown");
        int[] plain = {10, 32, 33, 94, 126};
        for (int c : plain) {
            JobTerminal x = with(ECHO);
            Check.type(x, c);
            Check.same("shown behind " + c, x.shown(), 1);
            Check.showed("echo", x, c);
        }
        int[] low = {0, 1, 8, 9, 11, 13, 30, 31};
        for (int c : low) {
            JobTerminal x = with(ECHO);
            Check.type(x, c);
            Check.same("shown behind " + c, x.shown(), 2);
            Check.showed("echo", x, 94, 64 + c);
        }
        JobTerminal x = with(ECHO);
        Check.type(x, 127);
        Check.same("shown behind 127", x.shown(), 2);
        Check.showed("echo", x, 94, 63);
        JobTerminal y = with(FIRST_FLAGS - ECHO);
        Check.type(y, 'a', 1, 3, 'b', 10);
        Check.same("only with ECHO", y.shown(), 0);
    }

    private static void rubbingOutAtThirtyTwo() {
        Check.about("8, 32 and 8 are shown, twice for c below 32");
        int[] codes = {0, 31, 32, 33, 126};
        for (int c : codes) {
            JobTerminal x = new JobTerminal();
            Check.type(x, c);
            int before = x.shown();
            Check.type(x, 127);
            int times = c < 32 ? 2 : 1;
            Check.same("shown for " + c, x.shown() - before, 3 * times);
            for (int k = 0; k < 3 * times; k++) {
                Check.same("screen(" + k + ")", x.screen(k), k % 3 == 1 ? 32 : 8);
            }
        }
        JobTerminal x = new JobTerminal();
        Check.type(x, 'a', 1);
        x.flags(FIRST_FLAGS - ECHO);
        Check.type(x, 21);
        Check.same("only with ECHO", x.shown(), 3);
        Check.same("edit", x.held(0), 0);
    }

    private static void rubbingOutTheLastOneFirst() {
        Check.about("each that goes is RUBBED OUT, the last one first");
        // what is left of an edit tells which ones went
        JobTerminal x = new JobTerminal();
        Check.type(x, 1, 'b');
        int before = x.shown();
        Check.type(x, 127);
        Check.same("b goes first", x.shown() - before, 3);
        Check.type(x, 127);
        Check.same("then 1", x.shown() - before, 9);
        Check.type(x, 'c', 2);
        before = x.shown();
        Check.type(x, 127);
        Check.same("2 goes first", x.shown() - before, 6);
        Check.type(x, 10);
        reads(x, 'c', 10);
    }

    private static void feed() {
        Check.about("with FEED, 13 and 10 are shown for 10; else c");
        JobTerminal x = with(ECHO + FEED);
        Check.type(x, 10, 9, 11);
        Check.same("shown", x.shown(), 6);
        Check.showed("10 alone is another", x, 13, 10, 94, 73, 94, 75);
        JobTerminal y = with(ECHO);
        Check.type(y, 10);
        Check.same("shown", y.shown(), 1);
        Check.showed("without FEED", y, 10);
        // a 13 that a process writes is shown as it is
        JobTerminal z = new JobTerminal();
        Check.write(z, 0, 1, 13, 1, 10, 1, 128 + 10);
        z.launch(0, -1, false);
        z.step(3);
        Check.same("shown", z.shown(), 5);
        Check.showed("written", z, 13, 13, 10, 13, 10);
    }
}
