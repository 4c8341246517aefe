import java.util.ArrayList;
import java.util.List;
import java.util.Random;
import java.util.concurrent.Callable;

/** Long runs of calls, the same ones each time, whose answers are compared with the model's. */
public final class ModelTest {
    private static final int RUNS = 6000;
    private static final int MOST_CALLS = 512;
    private static final int[] EXTREMES = {Integer.MIN_VALUE, -65, -2, -1, 4, 8, 10, 16, 64, 100, 128,
        Integer.MAX_VALUE};
    private static final int[] OPS = {0, 1, 1, 1, 2, 2, 2, 3, 3, 3, 4, 4, 5, 6, 6, 7, 8, 9, 9, 10, 11, 12};
    private static final int[] KEYS = {3, 4, 10, 13, 21, 26, 28, 127, 1, 97, 98, 99};

    private final Random random;
    private final JobTerminal program = new JobTerminal();
    private final Model model = new Model();
    private final List<String> log = new ArrayList<>();
    private boolean apart = false;

    private ModelTest(int run) {
        random = new Random(run);
    }

    public static void main(String[] args) {
        int wrong = 0;
        for (int run = 0; run < RUNS && wrong < 3; run++) {
            ModelTest test = new ModelTest(run);
            test.runCalls();
            if (test.apart) {
                wrong++;
                System.out.println("run " + run + ":");
                for (String row : test.log) {
                    System.out.println("  " + row);
                }
            }
        }
        Check.same("runs that differ from the model", wrong, 0);
        Check.end();
    }

    private void runCalls() {
        int lines = 4 + random.nextInt(13);
        for (int p = 0; p < 4; p++) {
            for (int line = 0; line < lines; line++) {
                writeLine(p, line);
            }
        }
        while (log.size() < MOST_CALLS && !apart) {
            if (random.nextBoolean()) {
                change();
            } else {
                look();
            }
        }
    }

    private int below(int bound) {
        return random.nextInt(bound);
    }

    /** Mostly a number from 0 on, at times one that is wrong or extreme. */
    private int mostly(int bound) {
        return below(12) == 0 ? EXTREMES[below(EXTREMES.length)] : below(bound);
    }

    private int number(int op) {
        switch (below(6)) {
            case 0:
                return random.nextInt();
            case 1:
                return EXTREMES[below(EXTREMES.length)];
            case 2:
                return op == 6 || op == 7 ? 256 << below(2) : below(16);
            case 3:
                return op == 6 || op == 7 ? below(1024) : below(128);
            case 4:
                return op == 4 || op == 5 ? below(4) : below(11);
            default:
                return below(3) == 0 ? -below(200) : below(5);
        }
    }

    private void compare(String call, Callable<Object> got, Callable<Object> due) {
        String gotText = answer(got);
        String dueText = answer(due);
        if (gotText.equals(dueText)) {
            log.add(call + " -> " + gotText);
        } else {
            log.add(call + " answered " + gotText + ", due is " + dueText);
            apart = true;
        }
    }

    private static String answer(Callable<Object> call) {
        try {
            return String.valueOf(call.call());
        } catch (Exception e) {
            return "throws." + e.getClass().getSimpleName();
        }
    }

    private void writeLine(int p, int line) {
        int op = OPS[below(OPS.length)];
        int x = number(op);
        compare("program(" + p + ", " + line + ", " + op + ", " + x + ")",
                () -> program.program(p, line, op, x), () -> model.program(p, line, op, x));
    }

    private void change() {
        switch (below(20)) {
            case 0:
                writeLine(mostly(4), mostly(16));
                break;
            case 1:
                if (below(3) == 0) {
                    int flags = below(3) == 0 ? 47 + 16 * below(2) : mostly(64);
                    compare("flags(" + flags + ")", () -> program.flags(flags), () -> model.flags(flags));
                }
                break;
            case 2:
            case 3:
            case 4:
            case 5:
            case 6:
                typeKey();
                break;
            case 7:
            case 8:
            case 9:
                launch();
                break;
            case 10:
                int front = mostly(4);
                compare("front(" + front + ")", () -> program.front(front), () -> model.front(front));
                break;
            case 11:
                int back = mostly(4);
                compare("back(" + back + ")", () -> program.back(back), () -> model.back(back));
                break;
            case 12:
                int job = mostly(4);
                int signal = mostly(10);
                compare("send(" + job + ", " + signal + ")",
                        () -> program.send(job, signal), () -> model.send(job, signal));
                break;
            case 13:
            case 14:
                compare("report()", () -> program.report(), () -> model.report());
                break;
            case 15:
                compare("tick()", () -> program.tick(), () -> model.tick());
                break;
            case 16:
                if (below(40) == 0) {
                    compare("hang()", () -> program.hang(), () -> model.hang());
                }
                break;
            default:
                int n = below(3) == 0 ? mostly(65) : 1 + below(6);
                compare("step(" + n + ")", () -> program.step(n), () -> model.step(n));
                break;
        }
    }

    private void typeKey() {
        int keys = below(4) == 0 ? 22 : 1;
        boolean plain = keys > 1;
        for (int i = 0; i < keys && log.size() < MOST_CALLS && !apart; i++) {
            int c = plain ? 97 + below(9) : below(2) == 0 ? KEYS[below(KEYS.length)] : below(130);
            compare("key((char) " + c + ")", () -> program.key((char) c), () -> model.key(c));
        }
    }

    private void launch() {
        int first = mostly(4);
        int second = below(2) == 0 ? -1 : mostly(4);
        boolean behind = random.nextBoolean();
        compare("launch(" + first + ", " + second + ", " + behind + ")",
                () -> program.launch(first, second, behind), () -> model.launch(first, second, behind));
    }

    private void look() {
        switch (below(8)) {
            case 0:
                compare("foreground()", () -> program.foreground(), () -> model.foreground());
                break;
            case 1:
                int job = mostly(4);
                compare("job(" + job + ")", () -> program.job(job), () -> model.job(job));
                break;
            case 2:
                compare("shown()", () -> program.shown(), () -> model.shown());
                break;
            case 3:
                int k = mostly(below(2) == 0 ? 4 : 101);
                compare("screen(" + k + ")", () -> program.screen(k), () -> model.screen(k));
                break;
            case 4:
                int held = mostly(7);
                compare("held(" + held + ")", () -> program.held(held), () -> model.held(held));
                break;
            default:
                int slot = mostly(8);
                int which = mostly(9);
                compare("process(" + slot + ", " + which + ")",
                        () -> program.process(slot, which), () -> model.process(slot, which));
                break;
        }
    }
}
