import java.util.ArrayDeque;
import java.util.ArrayList;
import java.util.Deque;
import java.util.List;
import java.util.Set;
import java.util.TreeMap;
import java.util.TreeSet;

/**
 * The document read a second time, with sets, lists and states compared before and behind, so that
 * its slips are other ones than the program's.
 */
final class Model {
    static final class Proc {
        int state = 1;
        int program;
        int line = 0;
        int register = 0;
        int code = 0;
        int nap = 0;
        Task task;
        final Set<Integer> pending = new TreeSet<>();
        final Set<Integer> blocked = new TreeSet<>();
        final Set<Integer> ignored = new TreeSet<>();
    }

    static final class Task {
        int number;
        final List<Proc> procs = new ArrayList<>();
        final Deque<Integer> pipe = new ArrayDeque<>();
        boolean untold = false;

        int state() {
            boolean allEnded = true;
            boolean oneReady = false;
            for (Proc p : procs) {
                allEnded &= p.state == 3;
                oneReady |= p.state == 1;
            }
            return allEnded ? 3 : oneReady ? 1 : 2;
        }
    }

    private final int[][][] programs = new int[4][16][2];
    private final Proc[] slots = new Proc[8];
    private final TreeMap<Integer, Task> tasks = new TreeMap<>();
    private final List<Integer> edit = new ArrayList<>();
    private final List<Integer> queue = new ArrayList<>();
    private final List<Integer> screen = new ArrayList<>();
    private int flags = 1 | 2 | 4 | 8 | 32;
    private boolean hangs = false;
    private int foreground = -1;
    private int searchFrom = 0;

    private int[] statesBefore() {
        int[] states = new int[4];
        for (int j = 0; j < 4; j++) {
            states[j] = tasks.containsKey(j) ? tasks.get(j).state() : 0;
        }
        return states;
    }

    private void compare(int[] before) {
        for (Task t : tasks.values()) {
            if (t.state() != before[t.number]) {
                t.untold = true;
                if (t.state() != 1 && foreground == t.number) {
                    foreground = -1;
                }
            }
        }
    }

    boolean program(int p, int line, int op, int x) {
        if (p < 0 || p > 3 || line < 0 || line > 15) {
            return false;
        }
        programs[p][line] = new int[] {op, x};
        return true;
    }

    int flags(int next) {
        if (next < 0 || next > 63) {
            return -1;
        }
        int was = flags;
        flags = next;
        return was;
    }

    private boolean on(int flag) {
        return (flags & flag) == flag;
    }

    private void show(int c) {
        if (c == 10 && on(32)) {
            screen.add(13);
        }
        screen.add(c);
    }

    private void echo(int c) {
        if (on(2)) {
            if (c == 10) {
                show(10);
            } else if (c < 32) {
                show(94);
                show(64 + c);
            } else if (c == 127) {
                show(94);
                show(63);
            } else {
                show(c);
            }
        }
    }

    private void rubLast() {
        int c = edit.remove(edit.size() - 1);
        for (int i = 0; on(2) && i < (c < 32 ? 2 : 1); i++) {
            show(8);
            show(32);
            show(8);
        }
    }

    boolean key(int typed) {
        if (typed > 127) {
            return false;
        }
        int c = typed == 13 && on(8) ? 10 : typed;
        if (on(4) && (c == 3 || c == 28 || c == 26)) {
            int[] before = statesBefore();
            if (foreground != -1) {
                sendTask(tasks.get(foreground), c == 3 ? 1 : c == 28 ? 2 : 7);
            }
            echo(c);
            edit.clear();
            compare(before);
            return true;
        }
        if (!on(1)) {
            if (queue.size() == 40) {
                return false;
            }
            queue.add(c);
            echo(c);
            return true;
        }
        if (c == 127 || c == 21) {
            do {
                if (!edit.isEmpty()) {
                    rubLast();
                }
            } while (c == 21 && !edit.isEmpty());
            return true;
        }
        if (c == 4 || c == 10) {
            List<Integer> more = new ArrayList<>(edit);
            if (c == 10) {
                more.add(10);
            } else if (edit.isEmpty()) {
                more.add(-1);
            }
            if (queue.size() + more.size() > 40) {
                return false;
            }
            if (c == 10) {
                echo(10);
            }
            queue.addAll(more);
            edit.clear();
            return true;
        }
        if (edit.size() == 20) {
            return false;
        }
        edit.add(c);
        echo(c);
        return true;
    }

    int launch(int first, int second, boolean behind) {
        if (first < 0 || first > 3 || second < -1 || second > 3) {
            throw new IllegalArgumentException();
        }
        List<Integer> free = new ArrayList<>();
        for (int s = 0; s < 8; s++) {
            if (slots[s] == null) {
                free.add(s);
            }
        }
        int wanted = second == -1 ? 1 : 2;
        if (foreground != -1 && !behind || tasks.size() == 4 || free.size() < wanted) {
            throw new IllegalStateException();
        }
        Task t = new Task();
        while (tasks.containsKey(t.number)) {
            t.number++;
        }
        for (int i = 0; i < wanted; i++) {
            Proc p = new Proc();
            p.program = i == 0 ? first : second;
            p.task = t;
            t.procs.add(p);
            slots[free.get(i)] = p;
        }
        tasks.put(t.number, t);
        if (!behind) {
            foreground = t.number;
        }
        return t.number;
    }

    private Task existing(int job) {
        if (!tasks.containsKey(job)) {
            throw new IllegalArgumentException();
        }
        return tasks.get(job);
    }

    int front(int job) {
        Task t = existing(job);
        if (foreground != -1 && foreground != job || t.state() == 3) {
            throw new IllegalStateException();
        }
        int[] before = statesBefore();
        foreground = job;
        sendTask(t, 5);
        compare(before);
        return t.state();
    }

    int back(int job) {
        Task t = existing(job);
        if (t.state() == 3) {
            throw new IllegalStateException();
        }
        int[] before = statesBefore();
        foreground = foreground == job ? -1 : foreground;
        sendTask(t, 5);
        compare(before);
        return t.state();
    }

    int send(int job, int signal) {
        Task t = existing(job);
        if (signal < 0 || signal > 9) {
            throw new IllegalArgumentException();
        }
        int[] before = statesBefore();
        sendTask(t, signal);
        compare(before);
        return t.state();
    }

    int report() {
        for (Task t : tasks.values()) {
            if (t.untold) {
                t.untold = false;
                int state = t.state();
                if (state == 3) {
                    tasks.remove(t.number);
                    for (int s = 0; s < 8; s++) {
                        if (slots[s] != null && slots[s].task == t) {
                            slots[s] = null;
                        }
                    }
                }
                return 4 * t.number + state;
            }
        }
        return -1;
    }

    private void sendTask(Task t, int signal) {
        for (Proc p : t.procs) {
            sendProc(p, signal);
        }
    }

    private void sendProc(Proc p, int signal) {
        if (p.state == 3) {
            return;
        }
        if (signal == 5) {
            p.pending.removeIf(s -> s >= 6);
            if (p.state == 2) {
                p.state = 1;
                actOnPending(p);
            }
        } else if (signal == 3 || signal == 6) {
            act(p, signal);
        } else if (!p.ignored.contains(signal)) {
            if (p.blocked.contains(signal) || p.state == 2) {
                p.pending.add(signal);
            } else {
                act(p, signal);
            }
        }
    }

    private void actOnPending(Proc p) {
        for (int signal : new ArrayList<>(p.pending)) {
            if (p.state == 1 && !p.blocked.contains(signal)) {
                act(p, signal);
            }
        }
    }

    private void act(Proc p, int signal) {
        p.pending.remove(signal);
        if (signal <= 4) {
            p.state = 3;
            p.code = 128 + signal;
        } else {
            p.state = 2;
        }
    }

    int step(int n) {
        if (n < 1 || n > 64) {
            return -1;
        }
        int count = 0;
        boolean failed = false;
        while (count < n && !failed) {
            int slot = -1;
            for (int i = 7; i >= 0; i--) {
                int s = (searchFrom + i) % 8;
                if (slots[s] != null && canGoOn(slots[s])) {
                    slot = s;
                }
            }
            if (slot == -1) {
                break;
            }
            searchFrom = slot + 1;
            int[] before = statesBefore();
            failed = run(slots[slot]);
            compare(before);
            count++;
        }
        return count;
    }

    private int[] lineOf(Proc p) {
        if (p.line == 16) {
            return new int[] {0, 0};
        }
        int[] line = programs[p.program][p.line];
        return line[0] >= 0 && line[0] <= 11 ? line : new int[] {0, line[1]};
    }

    private boolean isFirstOfTwo(Proc p) {
        return p.task.procs.size() == 2 && p.task.procs.get(0) == p;
    }

    private boolean isSecond(Proc p) {
        return p.task.procs.size() == 2 && p.task.procs.get(1) == p;
    }

    private boolean canGoOn(Proc p) {
        if (p.state != 1 || p.nap > 0) {
            return false;
        }
        int op = lineOf(p)[0];
        if (op == 2) {
            if (isSecond(p)) {
                return !p.task.pipe.isEmpty() || p.task.procs.get(0).state == 3;
            }
            return hangs || foreground != p.task.number || !queue.isEmpty();
        }
        if (op == 1 || op == 3 && p.register >= 0) {
            return !isFirstOfTwo(p) || p.task.procs.get(1).state == 3 || p.task.pipe.size() < 4;
        }
        return true;
    }

    private boolean run(Proc p) {
        int x = lineOf(p)[1];
        switch (lineOf(p)[0]) {
            case 0 -> {
                p.state = 3;
                p.code = x & 255;
                return false;
            }
            case 1 -> {
                return write(p, x & 127);
            }
            case 2 -> {
                return read(p);
            }
            case 3 -> {
                if (p.register >= 0) {
                    return write(p, p.register & 127);
                }
            }
            case 4 -> {
                p.line = x & 15;
                return false;
            }
            case 5 -> {
                if (p.register < 0) {
                    p.line = x & 15;
                    return false;
                }
            }
            case 6 -> {
                setOf(p.blocked, x);
                actOnPending(p);
            }
            case 7 -> {
                setOf(p.ignored, x);
                p.pending.removeAll(p.ignored);
            }
            case 8 -> p.nap = x & 7;
            case 9 -> {
                if ((x & 15) < 10) {
                    sendProc(p, x & 15);
                }
            }
            case 10 -> p.register = x;
            default -> p.register += x;
        }
        p.line++;
        return false;
    }

    private static void setOf(Set<Integer> signals, int x) {
        signals.clear();
        for (int s = 0; s < 10; s++) {
            if ((x >> s & 1) == 1 && s != 3 && s != 5 && s != 6) {
                signals.add(s);
            }
        }
    }

    private static boolean fail(Proc p) {
        p.register = -2;
        p.line++;
        return true;
    }

    private boolean read(Proc p) {
        if (isSecond(p)) {
            p.register = p.task.pipe.isEmpty() ? -1 : p.task.pipe.removeFirst();
        } else if (hangs) {
            p.register = -1;
        } else if (foreground != p.task.number) {
            if (p.blocked.contains(8) || p.ignored.contains(8)) {
                return fail(p);
            }
            sendTask(p.task, 8);
            return false;
        } else {
            p.register = queue.remove(0);
        }
        p.line++;
        return false;
    }

    private boolean write(Proc p, int code) {
        if (isFirstOfTwo(p)) {
            if (p.task.procs.get(1).state == 3) {
                return fail(p);
            }
            p.task.pipe.addLast(code);
        } else if (hangs) {
            return fail(p);
        } else if (on(16) && foreground != p.task.number && !p.blocked.contains(9)
                && !p.ignored.contains(9)) {
            sendTask(p.task, 9);
            return false;
        } else {
            show(code);
        }
        p.line++;
        return false;
    }

    int tick() {
        int count = 0;
        for (Proc p : slots) {
            if (p != null && p.state == 1 && p.nap > 0) {
                p.nap--;
                count++;
            }
        }
        return count;
    }

    boolean hang() {
        if (hangs) {
            return false;
        }
        int[] before = statesBefore();
        hangs = true;
        edit.clear();
        queue.clear();
        if (foreground != -1) {
            sendTask(tasks.get(foreground), 0);
            sendTask(tasks.get(foreground), 5);
        }
        for (Task t : tasks.values()) {
            if (t.number != foreground && t.state() == 2) {
                sendTask(t, 0);
                sendTask(t, 5);
            }
        }
        compare(before);
        return true;
    }

    int foreground() {
        return foreground;
    }

    int job(int job) {
        return tasks.containsKey(job) ? tasks.get(job).state() : -1;
    }

    int process(int slot, int which) {
        if (slot < 0 || slot > 7 || slots[slot] == null || which < 0 || which > 8) {
            return -1;
        }
        Proc p = slots[slot];
        return new int[] {p.state, p.task.number, p.line, p.register, bits(p.pending),
            bits(p.blocked), bits(p.ignored), p.nap, p.code}[which];
    }

    private static int bits(Set<Integer> signals) {
        int bits = 0;
        for (int s : signals) {
            bits |= 1 << s;
        }
        return bits;
    }

    int shown() {
        return screen.size();
    }

    int screen(int k) {
        return k < 0 || k > 99 || k >= screen.size() ? -1 : screen.get(screen.size() - 1 - k);
    }

    int held(int which) {
        if (which == 0 || which == 1) {
            return which == 0 ? edit.size() : queue.size();
        }
        Task t = which < 2 || which > 5 ? null : tasks.get(which - 2);
        return t == null || t.procs.size() < 2 ? -1 : t.pipe.size();
    }
}
