import java.util.concurrent.Callable;

/** Counts answers that are not the ones due, and shares what several tests need. */
final class Check {
    private static int wrong = 0;
    private static int looked = 0;
    private static String sentence = "";

    private Check() {
    }

    /** The document's sentence that the next looks are about; it is printed with a wrong answer. */
    static void about(String words) {
        sentence = "[" + words + "] ";
    }

    static void same(String what, Object got, Object due) {
        looked++;
        if (!got.equals(due)) {
            wrong++;
            System.out.println(sentence + what + " answered " + got + ", due is " + due);
        }
    }

    static void refuses(String what, Class<?> due, Callable<?> call) {
        looked++;
        String got;
        try {
            got = "the answer " + call.call();
        } catch (Exception e) {
            if (e.getClass() == due) {
                return;
            }
            got = e.toString();
        }
        wrong++;
        System.out.println(sentence + what + " gave " + got + ", due is " + due.getName());
    }

    /** The codes that were shown last, the oldest of them first. */
    static void showed(String what, JobTerminal x, int... codes) {
        for (int i = 0; i < codes.length; i++) {
            int k = codes.length - 1 - i;
            same(what + ": screen(" + k + ")", x.screen(k), codes[i]);
        }
    }

    static void type(JobTerminal x, int... codes) {
        for (int c : codes) {
            same("key(" + c + ")", x.key((char) c), true);
        }
    }

    /** Writes a program from op and number pairs, from line 0 on. */
    static void write(JobTerminal x, int p, int... opsAndNumbers) {
        for (int i = 0; i + 1 < opsAndNumbers.length; i += 2) {
            same("program(" + p + ", " + i / 2 + ", ..)",
                    x.program(p, i / 2, opsAndNumbers[i], opsAndNumbers[i + 1]), true);
        }
    }

    /** The same key so many times, each of which must be taken. */
    static void typeTimes(JobTerminal x, int times, int code) {
        for (int i = 0; i < times; i++) {
            type(x, code);
        }
    }

    /** What the numbers 0 .. 8 of a slot are. */
    static void slot(String what, JobTerminal x, int slot, int... due) {
        for (int which = 0; which < due.length; which++) {
            same(what + ": process(" + slot + ", " + which + ")", x.process(slot, which), due[which]);
        }
    }

    /** What tells one state from another, as one text; in few calls, as an object has only 512. */
    static String view(JobTerminal x) {
        StringBuilder text = new StringBuilder();
        int flags = x.flags(0);
        x.flags(flags);
        text.append("flags ").append(flags).append(" foreground ").append(x.foreground());
        for (int j = 0; j < 4; j++) {
            text.append(" job ").append(x.job(j));
        }
        for (int slot = 0; slot < 8; slot++) {
            text.append(" slot ").append(slot).append(": ").append(x.process(slot, 0));
            for (int which = 1; which < 9 && x.process(slot, 0) != -1; which++) {
                text.append(' ').append(x.process(slot, which));
            }
        }
        text.append(" held");
        for (int which = 0; which < 6; which++) {
            text.append(' ').append(x.held(which));
        }
        text.append(" shown ").append(x.shown()).append(':');
        for (int k = 0; k < 6; k++) {
            text.append(' ').append(x.screen(k));
        }
        return text.toString();
    }

    static void end() {
        System.out.println(looked + " looked at, " + wrong + " wrong");
        if (wrong != 0) {
            System.exit(1);
        }
    }
}
