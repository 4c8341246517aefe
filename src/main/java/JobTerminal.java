/**
 * A terminal with a line that is edited as it is typed, jobs of one or two processes, signals,
 * and a pipe between the two processes of a job.
 */
public final class JobTerminal {
    public static final int NONE = -1;

    private static final int JOBS = 4;
    private static final int SLOTS = 8;
    private static final int LAST_KEY = 127;
    private static final int MOST_STEPS = 64;
    private static final int CODE_MASK = 127;

    // A job's state bears the number of the process state that decides it.
    private static final int READY = 1;
    private static final int STOPPED = 2;
    private static final int ENDED = 3;

    private static final int HUP = 0;
    private static final int INT = 1;
    private static final int QUIT = 2;
    private static final int KILL = 3;
    private static final int CONT = 5;
    private static final int STOP = 6;
    private static final int TSTP = 7;
    private static final int TTIN = 8;
    private static final int TTOU = 9;
    private static final int LAST_SIGNAL = 9;

    private static final int OP_END = 0;
    private static final int OP_WRITE = 1;
    private static final int OP_READ = 2;
    private static final int OP_WRITE_REGISTER = 3;
    private static final int OP_JUMP = 4;
    private static final int OP_JUMP_BELOW_ZERO = 5;
    private static final int OP_BLOCK = 6;
    private static final int OP_IGNORE = 7;
    private static final int OP_NAP = 8;
    private static final int OP_SIGNAL = 9;
    private static final int OP_LOAD = 10;
    private static final int OP_ADD = 11;
    private static final int LAST_OP = 11;

    private final Programs programs;
    private final JobProcess[] processes;
    private final Job[] jobs;
    private final Terminal terminal;
    private Job foregroundJob;
    private int latestSlot;

    public JobTerminal() {
        programs = new Programs();
        terminal = new Terminal();
        processes = new JobProcess[SLOTS];
        for (int slot = 0; slot < SLOTS; slot++) {
            processes[slot] = new JobProcess();
        }
        jobs = new Job[JOBS];
        for (int number = 0; number < JOBS; number++) {
            jobs[number] = new Job(number);
        }
        foregroundJob = null;
        // The first search begins behind this slot, which is at slot 0.
        latestSlot = SLOTS - 1;
    }

    public boolean program(int p, int line, int op, int x) {
        if (!Programs.hasProgram(p) || !Programs.hasLine(line)) {
            return false;
        }
        programs.setLine(p, line, op, x);
        return true;
    }

    public int flags(int flags) {
        if (flags < 0 || flags > Terminal.ALL_FLAGS) {
            return NONE;
        }
        int before = terminal.modes;
        terminal.modes = flags;
        return before;
    }

    public boolean key(char c) {
        if (c > LAST_KEY) {
            return false;
        }
        int typed = terminal.translate(c);
        int signal = terminal.signalFor(typed);
        if (signal == NONE) {
            return terminal.type(typed);
        }
        if (foregroundJob != null) {
            foregroundJob.receive(signal);
        }
        terminal.dropEdit(typed);
        settleAll();
        return true;
    }

    public int launch(int first, int second, boolean behind)
            throws IllegalArgumentException, IllegalStateException {
        boolean paired = second != NONE;
        if (!Programs.hasProgram(first) || (paired && !Programs.hasProgram(second))) {
            throw new IllegalArgumentException("no such program");
        }
        if (!behind && foregroundJob != null) {
            throw new IllegalStateException("another job is in the foreground");
        }
        Job fresh = unusedJob();
        JobProcess one = freeProcess(0);
        JobProcess two = paired ? freeProcess(1) : null;
        if (fresh == null) {
            throw new IllegalStateException("there are four jobs");
        }
        if (one == null || (paired && two == null)) {
            throw new IllegalStateException("not enough free slots");
        }
        one.begin(fresh, first);
        if (two != null) {
            two.begin(fresh, second);
        }
        fresh.begin(one, two);
        if (!behind) {
            foregroundJob = fresh;
        }
        return fresh.number;
    }

    public int front(int job) throws IllegalArgumentException, IllegalStateException {
        Job chosen = findJob(job);
        if (chosen == null) {
            throw new IllegalArgumentException("no such job");
        }
        if (foregroundJob != null && foregroundJob != chosen) {
            throw new IllegalStateException("another job is in the foreground");
        }
        if (chosen.state() == ENDED) {
            throw new IllegalStateException("the job is done");
        }
        foregroundJob = chosen;
        return sendAndSettle(chosen, CONT);
    }

    public int back(int job) throws IllegalArgumentException, IllegalStateException {
        Job chosen = findJob(job);
        if (chosen == null) {
            throw new IllegalArgumentException("no such job");
        }
        if (chosen.state() == ENDED) {
            throw new IllegalStateException("the job is done");
        }
        if (foregroundJob == chosen) {
            foregroundJob = null;
        }
        return sendAndSettle(chosen, CONT);
    }

    public int send(int job, int signal) throws IllegalArgumentException {
        Job chosen = findJob(job);
        if (chosen == null) {
            throw new IllegalArgumentException("no such job");
        }
        if (signal < 0 || signal > LAST_SIGNAL) {
            throw new IllegalArgumentException("no such signal");
        }
        return sendAndSettle(chosen, signal);
    }

    public int report() {
        for (int number = 0; number < JOBS; number++) {
            Job candidate = jobs[number];
            if (candidate.exists() && candidate.untold) {
                return tell(candidate);
            }
        }
        return NONE;
    }

    public int step(int n) {
        if (n < 1 || n > MOST_STEPS) {
            return NONE;
        }
        for (int done = 0; done < n; done++) {
            JobProcess next = nextToGo();
            if (next == null) {
                return done;
            }
            boolean failed = runLine(next);
            settle(next.owner);
            if (failed) {
                return done + 1;
            }
        }
        return n;
    }

    public int tick() {
        int shortened = 0;
        for (int slot = 0; slot < SLOTS; slot++) {
            JobProcess sleeper = processes[slot];
            if (sleeper.state == READY && sleeper.nap > 0) {
                sleeper.nap--;
                shortened++;
            }
        }
        return shortened;
    }

    public boolean hang() {
        if (terminal.hangs) {
            return false;
        }
        terminal.hangUp();
        if (foregroundJob != null) {
            foregroundJob.receiveHangUp();
        }
        for (int number = 0; number < JOBS; number++) {
            Job other = jobs[number];
            if (other != foregroundJob && other.state() == STOPPED) {
                other.receiveHangUp();
            }
        }
        settleAll();
        return true;
    }

    public int foreground() {
        return foregroundJob == null ? NONE : foregroundJob.number;
    }

    public int job(int job) {
        Job chosen = findJob(job);
        return chosen == null ? NONE : chosen.state();
    }

    public int process(int slot, int which) {
        if (slot < 0 || slot >= SLOTS) {
            return NONE;
        }
        return processes[slot].look(which);
    }

    public int shown() {
        return terminal.display.total;
    }

    public int screen(int k) {
        return terminal.display.codeBefore(k);
    }

    public int held(int which) {
        if (which == 0) {
            return terminal.edit.count;
        }
        if (which == 1) {
            return terminal.queue.count;
        }
        // Tested before the subtraction, which would wrap for the least ints.
        Job chosen = which < 2 ? null : findJob(which - 2);
        return chosen == null || chosen.second == null ? NONE : chosen.pipe.count;
    }

    /** The job of that number, or null when there is none. */
    private Job findJob(int number) {
        if (number < 0 || number >= JOBS) {
            return null;
        }
        Job found = jobs[number];
        return found.exists() ? found : null;
    }

    private Job unusedJob() {
        for (int number = 0; number < JOBS; number++) {
            if (!jobs[number].exists()) {
                return jobs[number];
            }
        }
        return null;
    }

    /** The process of a free slot, when so many free slots lie before it; or null. */
    private JobProcess freeProcess(int skipped) {
        int left = skipped;
        for (int slot = 0; slot < SLOTS; slot++) {
            if (processes[slot].owner == null) {
                if (left == 0) {
                    return processes[slot];
                }
                left--;
            }
        }
        return null;
    }

    private int sendAndSettle(Job target, int signal) {
        target.receive(signal);
        settle(target);
        return target.state();
    }

    private void settleAll() {
        for (int number = 0; number < JOBS; number++) {
            settle(jobs[number]);
        }
    }

    /** Draws the conclusions from a job's state, if it is another one than when this was last done. */
    private void settle(Job changed) {
        if (changed == null || changed.state() == changed.settledState) {
            return;
        }
        changed.settledState = changed.state();
        changed.untold = true;
        if (changed.settledState != READY && foregroundJob == changed) {
            foregroundJob = null;
        }
    }

    private int tell(Job untoldJob) {
        int state = untoldJob.state();
        untoldJob.untold = false;
        if (state == ENDED) {
            untoldJob.vanish();
        }
        return 4 * untoldJob.number + state;
    }

    /** The process that does the next step, whose slot is remembered for the search behind it; or null. */
    private JobProcess nextToGo() {
        int slot = latestSlot;
        for (int looked = 0; looked < SLOTS; looked++) {
            slot = slot >= SLOTS - 1 ? 0 : slot + 1;
            if (canGoOn(processes[slot])) {
                latestSlot = slot;
                return processes[slot];
            }
        }
        return null;
    }

    private boolean canGoOn(JobProcess candidate) {
        if (candidate.state != READY || candidate.nap > 0) {
            return false;
        }
        switch (programs.opAt(candidate.program, candidate.line)) {
            case OP_READ:
                return canRead(candidate);
            case OP_WRITE:
                return canWrite(candidate);
            case OP_WRITE_REGISTER:
                return candidate.register < 0 || canWrite(candidate);
            default:
                return true;
        }
    }

    private boolean canRead(JobProcess reader) {
        Job own = reader.owner;
        if (own != null && own.readsFromPipe(reader)) {
            return own.pipe.count > 0 || own.firstHasEnded();
        }
        return terminal.hangs || own != foregroundJob || terminal.queue.count > 0;
    }

    private boolean canWrite(JobProcess writer) {
        Job own = writer.owner;
        if (own != null && own.writesToPipe(writer)) {
            return own.secondHasEnded() || own.pipe.hasRoomFor(1);
        }
        return true;
    }

    /** Does the op at which a process is; true when the op failed. */
    private boolean runLine(JobProcess runner) {
        int op = programs.opAt(runner.program, runner.line);
        int x = programs.numberAt(runner.program, runner.line);
        switch (op) {
            case OP_READ:
                return read(runner);
            case OP_WRITE:
                return write(runner, x & CODE_MASK);
            case OP_WRITE_REGISTER:
                if (runner.register >= 0) {
                    return write(runner, runner.register & CODE_MASK);
                }
                runner.line++;
                return false;
            default:
                runner.runOwnOp(op, x);
                return false;
        }
    }

    private boolean read(JobProcess reader) {
        Job own = reader.owner;
        if (own != null && own.readsFromPipe(reader)) {
            // An empty row gives NONE, the -1 that is due behind an ended writer.
            reader.take(own.pipe.takeOldest());
            return false;
        }
        if (terminal.hangs) {
            reader.take(Terminal.NO_MORE);
            return false;
        }
        if (own == foregroundJob) {
            reader.take(terminal.queue.takeOldest());
            return false;
        }
        if (reader.shuns(TTIN)) {
            reader.fail();
            return true;
        }
        if (own != null) {
            own.receive(TTIN);
        }
        return false;
    }

    private boolean write(JobProcess writer, int code) {
        Job own = writer.owner;
        if (own != null && own.writesToPipe(writer)) {
            return writeToPipe(own, writer, code);
        }
        if (terminal.hangs) {
            writer.fail();
            return true;
        }
        if (own != null && own != foregroundJob && terminal.has(Terminal.GUARD) && !writer.shuns(TTOU)) {
            own.receive(TTOU);
            return false;
        }
        terminal.show(code);
        writer.line++;
        return false;
    }

    private static boolean writeToPipe(Job own, JobProcess writer, int code) {
        if (own.secondHasEnded()) {
            writer.fail();
            return true;
        }
        own.pipe.putLast(code);
        writer.line++;
        return false;
    }

    /** The lines of all programs. */
    private static final class Programs {
        private static final int COUNT = 4;
        private static final int LENGTH = 16;

        private final int[] ops;
        private final int[] numbers;

        Programs() {
            ops = new int[COUNT * LENGTH];
            numbers = new int[COUNT * LENGTH];
        }

        static boolean hasProgram(int p) {
            return p >= 0 && p < COUNT;
        }

        static boolean hasLine(int line) {
            return line >= 0 && line < LENGTH;
        }

        void setLine(int p, int line, int op, int x) {
            if (hasProgram(p) && hasLine(line)) {
                ops[p * LENGTH + line] = op;
                numbers[p * LENGTH + line] = x;
            }
        }

        int opAt(int p, int line) {
            if (!hasProgram(p) || !hasLine(line)) {
                return OP_END;
            }
            int op = ops[p * LENGTH + line];
            return op < 0 || op > LAST_OP ? OP_END : op;
        }

        int numberAt(int p, int line) {
            return hasProgram(p) && hasLine(line) ? numbers[p * LENGTH + line] : 0;
        }
    }

    /** The process of a slot; the slot is free as long as no job owns it. */
    private static final class JobProcess {
        private static final int MAY_BE_MASKED = 0x3FF & ~(1 << KILL | 1 << CONT | 1 << STOP);
        private static final int STOPPING = 1 << STOP | 1 << TSTP | 1 << TTIN | 1 << TTOU;
        private static final int SIGNAL_CODES = 128;
        private static final int FAILED = -2;

        private Job owner;
        private int state;
        private int program;
        private int line;
        private int register;
        private int code;
        private int pending;
        private int blocked;
        private int ignored;
        private int nap;

        void begin(Job newOwner, int newProgram) {
            owner = newOwner;
            state = READY;
            program = newProgram;
            line = 0;
            register = 0;
            code = 0;
            pending = 0;
            blocked = 0;
            ignored = 0;
            nap = 0;
        }

        void vanish() {
            owner = null;
            state = 0;
        }

        int look(int which) {
            if (owner == null) {
                return NONE;
            }
            switch (which) {
                case 0:
                    return state;
                case 1:
                    return owner.number;
                case 2:
                    return line;
                case 3:
                    return register;
                case 4:
                    return pending;
                case 5:
                    return blocked;
                case 6:
                    return ignored;
                case 7:
                    return nap;
                case 8:
                    return code;
                default:
                    return NONE;
            }
        }

        boolean shuns(int signal) {
            return ((blocked | ignored) & 1 << signal) != 0;
        }

        void receive(int signal) {
            if (state != READY && state != STOPPED) {
                return;
            }
            int bit = 1 << signal;
            if (signal == CONT) {
                pending &= ~STOPPING;
                if (state == STOPPED) {
                    state = READY;
                    actOnPending();
                }
            } else if (signal == KILL || signal == STOP) {
                act(signal);
            } else if ((ignored & bit) != 0) {
                return;
            } else if ((blocked & bit) != 0 || state == STOPPED) {
                pending |= bit;
            } else {
                act(signal);
            }
        }

        private void actOnPending() {
            for (int signal = 0; signal <= LAST_SIGNAL && state == READY; signal++) {
                if ((pending & ~blocked & 1 << signal) != 0) {
                    act(signal);
                }
            }
        }

        private void act(int signal) {
            pending &= ~(1 << signal);
            if (signal < CONT) {
                state = ENDED;
                code = SIGNAL_CODES + signal;
            } else {
                state = STOPPED;
            }
        }

        void take(int number) {
            register = number;
            line++;
        }

        void fail() {
            register = FAILED;
            line++;
        }

        /** Does an op that neither reads nor writes. */
        void runOwnOp(int op, int x) {
            // Counted before the op, so that a jump or an end can set the line itself.
            int here = line;
            line = here + 1;
            switch (op) {
                case OP_JUMP:
                    line = x & 15;
                    break;
                case OP_JUMP_BELOW_ZERO:
                    line = register < 0 ? x & 15 : line;
                    break;
                case OP_BLOCK:
                    blocked = x & MAY_BE_MASKED;
                    actOnPending();
                    break;
                case OP_IGNORE:
                    ignored = x & MAY_BE_MASKED;
                    pending &= ~ignored;
                    break;
                case OP_NAP:
                    nap = x & 7;
                    break;
                case OP_SIGNAL:
                    if ((x & 15) <= LAST_SIGNAL) {
                        receive(x & 15);
                    }
                    break;
                case OP_LOAD:
                    register = x;
                    break;
                case OP_ADD:
                    register += x;
                    break;
                default:
                    state = ENDED;
                    code = x & 255;
                    line = here;
                    break;
            }
        }
    }

    /** The job of a number; there is none as long as it has no first process. */
    private static final class Job {
        private static final int PIPE_ROOM = 4;

        private final int number;
        private final NumberRow pipe;
        private JobProcess first;
        private JobProcess second;
        private boolean untold;
        private int settledState;

        Job(int itsNumber) {
            number = itsNumber;
            pipe = new NumberRow(PIPE_ROOM);
            settledState = NONE;
        }

        boolean exists() {
            return first != null;
        }

        void begin(JobProcess one, JobProcess two) {
            first = one;
            second = two;
            pipe.clear();
            untold = false;
            settledState = READY;
        }

        void vanish() {
            if (first != null) {
                first.vanish();
            }
            if (second != null) {
                second.vanish();
            }
            first = null;
            second = null;
            settledState = NONE;
        }

        int state() {
            if (first == null) {
                return NONE;
            }
            // One ready process makes the job run, else one stopped process makes it stopped:
            // it is the least state that counts.
            return second == null ? first.state : Math.min(first.state, second.state);
        }

        boolean readsFromPipe(JobProcess reader) {
            return second != null && second == reader;
        }

        boolean writesToPipe(JobProcess writer) {
            return second != null && first == writer;
        }

        boolean firstHasEnded() {
            return first != null && first.state == ENDED;
        }

        boolean secondHasEnded() {
            return second != null && second.state == ENDED;
        }

        void receive(int signal) {
            if (first != null) {
                first.receive(signal);
            }
            if (second != null) {
                second.receive(signal);
            }
        }

        void receiveHangUp() {
            receive(HUP);
            receive(CONT);
        }
    }

    /** What is typed, what of it can be read, and what is shown. */
    private static final class Terminal {
        private static final int LINES = 1;
        private static final int ECHO = 2;
        private static final int KEYS = 4;
        private static final int RETURN = 8;
        private static final int GUARD = 16;
        private static final int FEED = 32;
        private static final int ALL_FLAGS = 63;

        private static final int EDIT_ROOM = 20;
        private static final int QUEUE_ROOM = 40;

        private static final int INTERRUPT_KEY = 3;
        private static final int END_KEY = 4;
        private static final int BACKSPACE = 8;
        private static final int NEW_LINE = 10;
        private static final int CARRIAGE_RETURN = 13;
        private static final int CLEAR_KEY = 21;
        private static final int SUSPEND_KEY = 26;
        private static final int QUIT_KEY = 28;
        private static final int SPACE = 32;
        private static final int CARET = 94;
        private static final int DELETE_KEY = 127;

        // What a reader gets instead of a number when nothing more comes.
        private static final int NO_MORE = -1;

        private final NumberRow edit;
        private final NumberRow queue;
        private final Display display;
        private int modes;
        private boolean hangs;

        Terminal() {
            edit = new NumberRow(EDIT_ROOM);
            queue = new NumberRow(QUEUE_ROOM);
            display = new Display();
            modes = ALL_FLAGS - GUARD;
            hangs = false;
        }

        boolean has(int flag) {
            return (modes & flag) != 0;
        }

        void hangUp() {
            hangs = true;
            edit.clear();
            queue.clear();
        }

        int translate(int c) {
            return c == CARRIAGE_RETURN && has(RETURN) ? NEW_LINE : c;
        }

        /** The signal that a key sends, or NONE. */
        int signalFor(int c) {
            if (!has(KEYS)) {
                return NONE;
            }
            switch (c) {
                case INTERRUPT_KEY:
                    return INT;
                case QUIT_KEY:
                    return QUIT;
                case SUSPEND_KEY:
                    return TSTP;
                default:
                    return NONE;
            }
        }

        void dropEdit(int c) {
            echo(c);
            edit.clear();
        }

        /** Takes a key that sends no signal; false when it is refused. */
        boolean type(int c) {
            if (!has(LINES)) {
                return typeUnedited(c);
            }
            switch (c) {
                case DELETE_KEY:
                    rubOut(1);
                    return true;
                case CLEAR_KEY:
                    rubOut(EDIT_ROOM);
                    return true;
                case END_KEY:
                    return endInput();
                case NEW_LINE:
                    return endLine();
                default:
                    return addToEdit(c);
            }
        }

        private boolean typeUnedited(int c) {
            if (!queue.hasRoomFor(1)) {
                return false;
            }
            queue.putLast(c);
            echo(c);
            return true;
        }

        private boolean addToEdit(int c) {
            if (!edit.hasRoomFor(1)) {
                return false;
            }
            edit.putLast(c);
            echo(c);
            return true;
        }

        private boolean endInput() {
            if (edit.count > 0) {
                return queueEdit(0);
            }
            if (!queue.hasRoomFor(1)) {
                return false;
            }
            queue.putLast(NO_MORE);
            return true;
        }

        private boolean endLine() {
            if (!queueEdit(1)) {
                return false;
            }
            queue.putLast(NEW_LINE);
            echo(NEW_LINE);
            return true;
        }

        /** Puts the edit into the queue, if as many numbers more have room behind it. */
        private boolean queueEdit(int behind) {
            if (!queue.hasRoomFor(edit.count + behind)) {
                return false;
            }
            for (int moved = 0; moved < EDIT_ROOM && edit.count > 0; moved++) {
                queue.putLast(edit.takeOldest());
            }
            return true;
        }

        private void rubOut(int most) {
            for (int gone = 0; gone < most && edit.count > 0; gone++) {
                int c = edit.takeLatest();
                if (has(ECHO)) {
                    showRubbing();
                    if (c < SPACE) {
                        showRubbing();
                    }
                }
            }
        }

        private void showRubbing() {
            show(BACKSPACE);
            show(SPACE);
            show(BACKSPACE);
        }

        private void echo(int c) {
            if (!has(ECHO)) {
                return;
            }
            if (c == NEW_LINE || (c >= SPACE && c != DELETE_KEY)) {
                show(c);
                return;
            }
            show(CARET);
            show(c == DELETE_KEY ? 63 : 64 + c);
        }

        void show(int code) {
            if (code == NEW_LINE && has(FEED)) {
                display.add(CARRIAGE_RETURN);
            }
            display.add(code);
        }
    }

    /** The latest codes that were shown, and how many ever were. */
    private static final class Display {
        private static final int KEPT = 100;

        private final int[] codes;
        private int next;
        private int total;

        Display() {
            codes = new int[KEPT];
        }

        void add(int code) {
            if (next < 0 || next >= KEPT) {
                next = 0;
            }
            codes[next] = code;
            next++;
            total++;
        }

        int codeBefore(int k) {
            if (k < 0 || k >= KEPT || k >= total) {
                return NONE;
            }
            int behind = next - 1 - k;
            int place = behind < 0 ? behind + KEPT : behind;
            return place >= 0 && place < KEPT ? codes[place] : NONE;
        }
    }

    /** A row of numbers with a bounded room, from which the oldest or the latest one can be taken. */
    private static final class NumberRow {
        private final int[] numbers;
        private int oldest;
        private int count;

        NumberRow(int room) {
            numbers = new int[Math.max(room, 0)];
        }

        boolean hasRoomFor(int more) {
            return count + more <= numbers.length;
        }

        void putLast(int number) {
            int place = placeOf(count);
            if (count < numbers.length && isPlace(place)) {
                numbers[place] = number;
                count++;
            }
        }

        /** The oldest number, which is in the row no more; NONE when the row is empty. */
        int takeOldest() {
            if (count == 0) {
                return NONE;
            }
            int taken = numberAt(oldest);
            oldest = placeOf(1);
            count--;
            return taken;
        }

        /** The latest number, which is in the row no more; NONE when the row is empty. */
        int takeLatest() {
            if (count == 0) {
                return NONE;
            }
            count--;
            return numberAt(placeOf(count));
        }

        void clear() {
            count = 0;
        }

        private int numberAt(int place) {
            return isPlace(place) ? numbers[place] : NONE;
        }

        private boolean isPlace(int place) {
            return place >= 0 && place < numbers.length;
        }

        private int placeOf(int age) {
            int place = oldest + age;
            return place >= numbers.length ? place - numbers.length : place;
        }
    }
}
