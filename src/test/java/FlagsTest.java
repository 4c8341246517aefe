/** Promise 3: the flags become others; NONE when they are not 0 .. 63. */
public final class FlagsTest {
    public static void main(String[] args) {
        answersWhatTheyWere();
        wrongFlags();
        linesGoOnWithTheEdit();
        Check.end();
    }

    private static void answersWhatTheyWere() {
        JobTerminal x = new JobTerminal();
        Check.same("flags at first", x.flags(0), 47);
        int before = 0;
        for (int flags = 63; flags >= 0; flags--) {
            Check.same("flags(" + flags + ")", x.flags(flags), before);
            before = flags;
        }
    }

    private static void wrongFlags() {
        JobTerminal x = new JobTerminal();
        int[] wrong = {Integer.MIN_VALUE, -64, -1, 64, 65, 128, Integer.MAX_VALUE};
        for (int flags : wrong) {
            Check.same("flags(" + flags + ")", x.flags(flags), -1);
        }
        Check.same("flags as before", x.flags(5), 47);
        Check.same("flags set", x.flags(64), -1);
        Check.same("flags as set", x.flags(47), 5);
    }

    private static void linesGoOnWithTheEdit() {
        JobTerminal x = new JobTerminal();
        Check.type(x, 'a', 'b');
        x.flags(46);
        Check.type(x, 'c');
        Check.same("edit kept without LINES", x.held(0), 2);
        Check.same("queue without LINES", x.held(1), 1);
        Check.type(x, 3);
        Check.same("edit behind 3 without LINES", x.held(0), 0);
        Check.same("queue behind 3", x.held(1), 1);
    }
}
