/** The edges of promise 2 and of the sentences on programs, their lines and what stands on them. */
public final class ProgramEdgesTest {
    private static final int LEAST = Integer.MIN_VALUE;
    private static final int MOST = Integer.MAX_VALUE;

    public static void main(String[] args) {
        firstAndLastProgram();
        firstAndLastLine();
        linesAreZeroAtFirst();
        anyOpAndAnyNumberIsTaken();
        refusedLines();
        refusedLinesLeaveTheirNeighbours();
        opsAroundTheNamedOnes();
        lineSixteen();
        lineSixteenIsNotTheNextProgramsLine();
        Check.end();
    }

    private static JobTerminal running(int... opsAndNumbers) {
        JobTerminal x = new JobTerminal();
        Check.write(x, 0, opsAndNumbers);
        x.launch(0, -1, true);
        return x;
    }

    private static void firstAndLastProgram() {
        Check.about("PROGRAMS 0 .. 3");
        JobTerminal x = new JobTerminal();
        Check.same("program 0", x.program(0, 0, 0, 10), true);
        Check.same("program 3", x.program(3, 0, 0, 13), true);
        Check.same("program -1", x.program(-1, 0, 0, 99), false);
        Check.same("program 4", x.program(4, 0, 0, 99), false);
        for (int p = 0; p < 4; p++) {
            x.launch(p, -1, true);
        }
        x.step(64);
        int[] codes = {10, 0, 0, 13};
        for (int slot = 0; slot < 4; slot++) {
            Check.same("code of program " + slot, x.process(slot, 8), codes[slot]);
        }
    }

    private static void firstAndLastLine() {
        Check.about("sixteen LINES 0 .. 15 each");
        JobTerminal x = new JobTerminal();
        Check.same("line 0", x.program(2, 0, 4, 15), true);
        Check.same("line 15", x.program(2, 15, 0, 15), true);
        Check.same("line -1", x.program(2, -1, 0, 99), false);
        Check.same("line 16", x.program(2, 16, 0, 99), false);
        x.launch(2, -1, true);
        Check.same("steps", x.step(9), 2);
        Check.slot("ended at the last line", x, 0, 3, 0, 15, 0, 0, 0, 0, 0, 15);
    }

    private static void linesAreZeroAtFirst() {
        Check.about("at first all are 0 and 0");
        for (int line = 0; line < 16; line++) {
            JobTerminal x = running(4, line);
            if (line == 0) {
                Check.same("line 0 is a jump to itself", x.step(3), 3);
                continue;
            }
            Check.same("the jump and the end", x.step(9), 2);
            Check.slot("line " + line, x, 0, 3, 0, line, 0, 0, 0, 0, 0, 0);
        }
    }

    private static void anyOpAndAnyNumberIsTaken() {
        Check.about("A line of a program becomes an op and a number");
        JobTerminal x = new JobTerminal();
        int[] extremes = {LEAST, LEAST + 1, -1, 0, 1, MOST - 1, MOST};
        for (int op : extremes) {
            for (int number : extremes) {
                Check.same("op " + op + ", x " + number, x.program(0, 0, op, number), true);
            }
        }
        for (int number : extremes) {
            JobTerminal y = running(10, number);
            y.step(1);
            Check.same("the whole number", y.process(0, 3), number);
        }
    }

    private static void refusedLines() {
        Check.about("false when there is no such line");
        JobTerminal x = new JobTerminal();
        int[] wrong = {LEAST, LEAST + 1, -64, -16, -4, -1, 16, 17, 32, 64, 1 << 28, 1 << 30, MOST - 1, MOST};
        for (int w : wrong) {
            Check.same("program(" + w + ", 0)", x.program(w, 0, 1, 65), false);
            Check.same("program(0, " + w + ")", x.program(0, w, 1, 65), false);
            Check.same("program(" + w + ", " + w + ")", x.program(w, w, 1, 65), false);
        }
        for (int p = 0; p < 4; p++) {
            x.launch(p, -1, true);
        }
        Check.same("nothing but ends", x.step(64), 4);
        Check.same("nothing shown", x.shown(), 0);
    }

    private static void refusedLinesLeaveTheirNeighbours() {
        Check.about("false .. changes nothing");
        // line 16 of program 0 would be line 0 of program 1, if lines were not looked at one by one
        JobTerminal x = new JobTerminal();
        Check.same("line 16 of program 0", x.program(0, 16, 0, 91), false);
        Check.same("line 31 of program 0", x.program(0, 31, 0, 92), false);
        Check.same("line -1 of program 1", x.program(1, -1, 0, 93), false);
        Check.same("line -16 of program 1", x.program(1, -16, 0, 94), false);
        Check.same("line 16 of program -1", x.program(-1, 16, 0, 95), false);
        Check.same("line -16 of program 4", x.program(4, -16, 0, 96), false);
        Check.write(x, 2, 4, 15);
        for (int p = 0; p < 4; p++) {
            x.launch(p, -1, true);
        }
        x.step(64);
        for (int slot = 0; slot < 4; slot++) {
            Check.same("code of program " + slot, x.process(slot, 8), 0);
        }
    }

    private static void opsAroundTheNamedOnes() {
        Check.about("An op that is not named here is op 0 (with its x)");
        int[] ops = {-1, 12, LEAST, MOST, 1 << 8, 1 << 8 | 1, 1 << 16 | 4, 1 << 31 | 11};
        for (int op : ops) {
            JobTerminal x = running(op, -1);
            Check.same("op " + op, x.step(9), 1);
            Check.slot("op " + op, x, 0, 3, 0, 0, 0, 0, 0, 0, 0, 255);
        }
        JobTerminal x = running(11, 7);
        x.step(1);
        Check.slot("op 11 is named", x, 0, 1, 0, 1, 7);
    }

    private static void lineSixteen() {
        Check.about("line 16 is op 0 with x 0");
        for (int op = 1; op < 12; op++) {
            JobTerminal x = new JobTerminal();
            Check.write(x, 0, 4, 15);
            // what leads to line 16, by any op that goes one further
            int number = op == 4 || op == 9 ? 5 : 0;
            x.program(0, 15, op, number);
            if (op == 2) {
                Check.type(x, 4);
            }
            x.launch(0, -1, false);
            x.step(2);
            if (op == 4) {
                Check.same("a jump leads elsewhere", x.process(0, 2), 5);
                continue;
            }
            Check.same("op " + op + " leads to line 16", x.process(0, 2), 16);
            Check.same("it is ready there", x.process(0, 0), 1);
            Check.same("one more step", x.step(9), 1);
            Check.same("it stays there", x.process(0, 2), 16);
            Check.same("state", x.process(0, 0), 3);
            Check.same("code", x.process(0, 8), 0);
        }
    }

    private static void lineSixteenIsNotTheNextProgramsLine() {
        Check.about("line 16 is op 0 with x 0");
        JobTerminal x = new JobTerminal();
        for (int p = 0; p < 4; p++) {
            Check.write(x, p, 11, 1);
            x.program(p, 15, 11, 1);
        }
        Check.write(x, 0, 4, 15);
        x.program(1, 0, 0, 77);
        x.launch(0, -1, true);
        Check.same("the jump, line 15 and line 16", x.step(9), 3);
        Check.slot("ended", x, 0, 3, 0, 16, 1, 0, 0, 0, 0, 0);
    }
}
