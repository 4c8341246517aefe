/** Promise 4: keys, with each of the flags, and what is refused. */
public final class KeyTest {
    public static void main(String[] args) {
        wrongKeys();
        echoesOfEveryKey();
        withoutEcho();
        rubbingOut();
        rubbingOutNothing();
        endOfInput();
        newLineAndReturn();
        withoutFeed();
        withoutLines();
        signalKeys();
        signalKeysWithoutKeys();
        signalKeysEmptyTheEdit();
        fullEdit();
        fullQueueByLines();
        fullQueueByEndOfInput();
        fullQueueWithoutLines();
        readInOrder();
        Check.end();
    }

    private static void wrongKeys() {
        JobTerminal x = new JobTerminal();
        Check.type(x, 'a');
        String before = Check.view(x);
        int[] wrong = {128, 129, 131, 138, 255, 256, 259, 32768, 65535};
        for (int c : wrong) {
            Check.same("key(" + c + ")", x.key((char) c), false);
        }
        Check.same("view", Check.view(x), before);
        x.flags(0);
        Check.same("key(128) without flags", x.key((char) 128), false);
        Check.same("held(1)", x.held(1), 0);
    }

    private static void echoesOfEveryKey() {
        for (int c = 0; c < 128; c++) {
            JobTerminal x = new JobTerminal();
            x.flags(2);
            Check.type(x, c);
            if (c == 10) {
                Check.same("shown behind 10", x.shown(), 1);
                Check.showed("echo", x, 10);
            } else if (c < 32) {
                Check.same("shown behind " + c, x.shown(), 2);
                Check.showed("echo", x, 94, 64 + c);
            } else if (c == 127) {
                Check.same("shown behind 127", x.shown(), 2);
                Check.showed("echo", x, 94, 63);
            } else {
                Check.same("shown behind " + c, x.shown(), 1);
                Check.showed("echo", x, c);
            }
            Check.same("queue behind " + c, x.held(1), 1);
        }
    }

    private static void withoutEcho() {
        JobTerminal x = new JobTerminal();
        x.flags(45);
        Check.type(x, 'a', 1, 127, 127, 'b', 21, 'c', 10, 3, 4, 26, 28);
        Check.same("shown without ECHO", x.shown(), 0);
        Check.same("queue", x.held(1), 3);
        Check.same("edit", x.held(0), 0);
    }

    private static void rubbingOut() {
        JobTerminal x = new JobTerminal();
        Check.type(x, 'a', 31, 32);
        Check.same("edit", x.held(0), 3);
        Check.same("shown", x.shown(), 4);
        Check.type(x, 127);
        Check.same("shown behind a wide one", x.shown(), 7);
        Check.showed("a space", x, 94, 95, 32, 8, 32, 8);
        Check.same("edit", x.held(0), 2);
        Check.type(x, 127);
        Check.same("shown behind a low one", x.shown(), 13);
        Check.showed("31", x, 8, 32, 8, 8, 32, 8, 8, 32, 8);
        Check.same("edit", x.held(0), 1);
        Check.type(x, 5, 'z', 21);
        Check.same("edit behind 21", x.held(0), 0);
        // z, then 5 twice, then a
        Check.same("shown behind 21", x.shown(), 13 + 3 + 3 + 6 + 3);
        Check.showed("21", x, 94, 69, 'z', 8, 32, 8, 8, 32, 8, 8, 32, 8, 8, 32, 8);
        Check.type(x, 'k', 10);
        Check.same("queue", x.held(1), 2);
    }

    private static void rubbingOutNothing() {
        JobTerminal x = new JobTerminal();
        Check.type(x, 127, 21);
        Check.same("shown", x.shown(), 0);
        Check.same("held(0)", x.held(0), 0);
        Check.same("held(1)", x.held(1), 0);
    }

    private static void endOfInput() {
        JobTerminal x = new JobTerminal();
        Check.type(x, 4);
        Check.same("queue behind 4", x.held(1), 1);
        Check.type(x, 'a', 'b', 4);
        Check.same("queue behind an edit and 4", x.held(1), 3);
        Check.same("edit", x.held(0), 0);
        Check.same("shown", x.shown(), 2);
        reads(x, -1, 'a', 'b');
        Check.type(x, 'c', 4);
        Check.same("queue behind one character and 4", x.held(1), 1);
        reads(x, 'c');
    }

    private static void newLineAndReturn() {
        JobTerminal x = new JobTerminal();
        Check.type(x, 'a', 13);
        Check.same("queue behind 13", x.held(1), 2);
        Check.showed("13 as 10", x, 'a', 13, 10);
        x.flags(47 - 8);
        Check.type(x, 13);
        Check.same("edit without RETURN", x.held(0), 1);
        Check.showed("13 without RETURN", x, 94, 77);
        Check.type(x, 10);
        Check.same("queue behind 10", x.held(1), 4);
        reads(x, 'a', 10, 13, 10);
        x.flags(8);
        Check.type(x, 13);
        x.flags(0);
        Check.type(x, 13);
        reads(x, 10, 13);
    }

    private static void withoutFeed() {
        JobTerminal x = new JobTerminal();
        x.flags(15);
        Check.type(x, 'a', 10);
        Check.same("shown", x.shown(), 2);
        Check.showed("without FEED", x, 'a', 10);
    }

    private static void withoutLines() {
        JobTerminal x = new JobTerminal();
        x.flags(46);
        Check.type(x, 'a', 127, 21, 4, 13);
        Check.same("edit", x.held(0), 0);
        Check.same("queue", x.held(1), 5);
        Check.showed("echoes", x, 'a', 94, 63, 94, 85, 94, 68, 13, 10);
        reads(x, 'a', 127, 21, 4, 10);
    }

    private static void signalKeys() {
        int[] keys = {3, 28, 26};
        int[] states = {3, 3, 2};
        int[] codes = {129, 130, 0};
        int[] pending = {2, 4, 128};
        for (int i = 0; i < 3; i++) {
            JobTerminal x = new JobTerminal();
            Check.write(x, 0, 4, 0);
            Check.write(x, 1, 6, pending[i], 4, 1);
            x.launch(0, -1, true);
            x.launch(0, 1, false);
            x.step(3);
            Check.type(x, keys[i]);
            Check.slot("a job behind, key " + keys[i], x, 0, 1, 0, 0, 0, 0, 0, 0, 0, 0);
            Check.slot("the first, key " + keys[i], x, 1, states[i], 1, 0, 0, 0, 0, 0, 0, codes[i]);
            Check.slot("the second, key " + keys[i], x, 2, 1, 1, 1, 0, pending[i], pending[i], 0, 0, 0);
            Check.same("job(1)", x.job(1), 1);
            Check.same("foreground()", x.foreground(), 1);
            Check.same("report()", x.report(), -1);
            Check.showed("echo", x, 94, 64 + keys[i]);
            Check.same("queue", x.held(1), 0);
        }
        JobTerminal x = new JobTerminal();
        Check.write(x, 0, 4, 0);
        x.launch(0, -1, false);
        Check.type(x, 3);
        Check.same("job(0)", x.job(0), 3);
        Check.same("foreground()", x.foreground(), -1);
        Check.same("report()", x.report(), 3);
        Check.type(x, 3);
        Check.same("shown", x.shown(), 4);
    }

    private static void signalKeysWithoutKeys() {
        JobTerminal x = new JobTerminal();
        x.flags(47 - 4);
        Check.write(x, 0, 4, 0);
        x.launch(0, -1, false);
        Check.type(x, 3, 28, 26);
        Check.same("edit", x.held(0), 3);
        Check.same("job(0)", x.job(0), 1);
        Check.slot("not signalled", x, 0, 1, 0, 0, 0, 0, 0, 0, 0, 0);
        Check.showed("echoes", x, 94, 67, 94, 92, 94, 90);
        x.flags(2);
        Check.type(x, 3);
        Check.same("queue without LINES and KEYS", x.held(1), 1);
        Check.same("job(0)", x.job(0), 1);
    }

    private static void signalKeysEmptyTheEdit() {
        int[] keys = {3, 28, 26};
        for (int key : keys) {
            JobTerminal x = new JobTerminal();
            Check.type(x, 'a', 10, 'b', 'c', key);
            Check.same("edit behind " + key, x.held(0), 0);
            Check.same("queue behind " + key, x.held(1), 2);
            Check.same("shown behind " + key, x.shown(), 7);
            Check.showed("no rubbing", x, 'b', 'c', 94, 64 + key);
        }
    }

    private static void fullEdit() {
        JobTerminal x = new JobTerminal();
        for (int i = 0; i < 20; i++) {
            Check.type(x, 'a' + i);
        }
        String before = Check.view(x);
        Check.same("a 21st character", x.key('z'), false);
        Check.same("a 21st low one", x.key((char) 1), false);
        Check.same("view", Check.view(x), before);
        Check.same("held(0)", x.held(0), 20);
        Check.type(x, 127, 'z', 10);
        Check.same("queue", x.held(1), 21);
        for (int i = 0; i < 20; i++) {
            Check.type(x, 'A');
        }
        Check.type(x, 21);
        Check.same("edit behind 21", x.held(0), 0);
    }

    private static void fullQueueByLines() {
        JobTerminal x = new JobTerminal();
        typeLine(x, 20);
        typeLine(x, 18);
        Check.same("queue", x.held(1), 40);
        String before = Check.view(x);
        Check.same("10 with a full queue", x.key((char) 10), false);
        Check.same("4 with a full queue", x.key((char) 4), false);
        Check.same("13 with a full queue", x.key((char) 13), false);
        Check.same("view", Check.view(x), before);
        Check.type(x, 'a');
        Check.same("edit goes on", x.held(0), 1);
        Check.same("4 with an edit", x.key((char) 4), false);
        Check.same("edit stays", x.held(0), 1);

        JobTerminal y = new JobTerminal();
        typeLine(y, 20);
        Check.same("queue", y.held(1), 21);
        for (int i = 0; i < 19; i++) {
            Check.type(y, 'b');
        }
        before = Check.view(y);
        Check.same("19 and 10 behind 21", y.key((char) 10), false);
        Check.same("view", Check.view(y), before);
        Check.type(y, 127, 10);
        Check.same("18 and 10 behind 21", y.held(1), 40);
    }

    private static void fullQueueByEndOfInput() {
        JobTerminal x = new JobTerminal();
        typeLine(x, 20);
        for (int i = 0; i < 20; i++) {
            Check.type(x, 'b');
        }
        Check.same("20 behind 21", x.key((char) 4), false);
        Check.same("edit stays", x.held(0), 20);
        Check.type(x, 127, 4);
        Check.same("19 behind 21", x.held(1), 40);
        Check.same("edit", x.held(0), 0);

        JobTerminal y = new JobTerminal();
        for (int i = 0; i < 40; i++) {
            Check.type(y, 4);
        }
        Check.same("a 41st end", y.key((char) 4), false);
        Check.same("queue", y.held(1), 40);
    }

    private static void fullQueueWithoutLines() {
        JobTerminal x = new JobTerminal();
        x.flags(46);
        for (int i = 0; i < 40; i++) {
            Check.type(x, 'a');
        }
        String before = Check.view(x);
        int[] refused = {'a', 10, 13, 4, 127, 21, 0};
        for (int c : refused) {
            Check.same("key " + c + " with a full queue", x.key((char) c), false);
        }
        Check.same("view", Check.view(x), before);
        Check.type(x, 3);
        Check.same("shown behind 3", x.shown(), 42);
    }

    private static void readInOrder() {
        JobTerminal x = new JobTerminal();
        Check.write(x, 0, 2, 0, 4, 0);
        x.launch(0, -1, false);
        for (int round = 0; round < 7; round++) {
            for (int i = 0; i < 9; i++) {
                Check.type(x, 'A' + round + i);
            }
            Check.type(x, 10);
            for (int i = 0; i < 9; i++) {
                x.step(2);
                Check.same("number read", x.process(0, 3), 'A' + round + i);
            }
            x.step(2);
            Check.same("end of the line", x.process(0, 3), 10);
            Check.same("nothing left", x.step(2), 0);
        }
    }

    private static void typeLine(JobTerminal x, int length) {
        for (int i = 0; i < length; i++) {
            Check.type(x, 'a');
        }
        Check.type(x, 10);
    }

    /** A job in the foreground reads all that there is, and is ended then. */
    private static void reads(JobTerminal x, int... due) {
        Check.write(x, 0, 2, 0, 4, 0);
        int job = x.launch(0, -1, false);
        for (int number : due) {
            Check.same("step", x.step(1), 1);
            Check.same("number read", x.process(0, 3), number);
            x.step(1);
        }
        Check.same("all is read", x.held(1), 0);
        x.send(job, 3);
        x.report();
    }
}
