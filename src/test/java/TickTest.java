/** Promise 11: naps of ready processes grow shorter. */
public final class TickTest {
    public static void main(String[] args) {
        JobTerminal x = new JobTerminal();
        Check.write(x, 0, 8, 2, 4, 1);
        Check.write(x, 1, 8, 9, 4, 1);
        Check.write(x, 2, 8, 7, 4, 1);
        x.launch(0, 1, true);
        x.launch(2, -1, true);
        Check.same("no nap", x.tick(), 0);
        Check.same("all begin to nap", x.step(64), 3);
        Check.same("nap of slot 0", x.process(0, 7), 2);
        Check.same("9 is 1", x.process(1, 7), 1);
        Check.same("nap of slot 2", x.process(2, 7), 7);
        Check.same("tick", x.tick(), 3);
        Check.same("nap of slot 0", x.process(0, 7), 1);
        Check.same("nap of slot 1", x.process(1, 7), 0);
        Check.same("nap of slot 2", x.process(2, 7), 6);
        Check.same("slot 1 goes on", x.step(3), 3);
        x.send(1, 6);
        Check.same("a stopped one naps no shorter", x.tick(), 1);
        Check.same("nap of slot 2", x.process(2, 7), 6);
        Check.same("nap of slot 0", x.process(0, 7), 0);
        Check.same("none", x.tick(), 0);
        x.send(1, 5);
        Check.same("continued", x.tick(), 1);
        Check.same("nap of slot 2", x.process(2, 7), 5);
        x.send(1, 3);
        Check.same("an ended one", x.tick(), 0);
        Check.same("nap of slot 2", x.process(2, 7), 5);
        x.report();
        Check.same("a free slot", x.tick(), 0);
        Check.end();
    }
}
