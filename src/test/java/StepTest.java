/** Promise 3. */
public final class StepTest {
    public static void main(String[] args) {
        operationsInRange();
        mostSteps();
        noTwentyFifthStep();
        twelveBlocksButOneOpen();
        endNeedsAnOpenBlock();
        noNinthBlock();
        refusedStepsChangeNothing();
        Due.end();
    }

    private static void operationsInRange() {
        MonitorDesk desk = new MonitorDesk();
        for (int operation : new int[] {-1, 16, 17, Due.MIN, Due.MAX, -2, 256}) {
            Due.is("step(" + operation + ", 0)", desk.step(operation, 0), -1);
            Due.is("state(0)", desk.state(0), 0);
        }
        for (int operation = 1; operation <= 15; operation++) {
            Due.is("step(" + operation + ", MIN)", desk.step(operation, Due.MIN), operation);
        }
        Due.is("step(0, MAX)", desk.step(0, Due.MAX), 16);
        Due.is("state(1)", desk.state(1), 1);
    }

    private static void mostSteps() {
        MonitorDesk desk = new MonitorDesk();
        for (int i = 1; i <= 23; i++) {
            Due.is("step " + i, desk.step(15, 1), i);
        }
        Due.is("step 24", desk.step(2, 1), 24);
        Due.is("an END as step 25", desk.step(0, 0), -1);
        Due.is("step 25", desk.step(15, 1), -1);
        Due.is("state(0)", desk.state(0), 24);
        Due.is("state(1)", desk.state(1), 1);
        Due.is("run()", desk.run(), -1);
        Due.is("clear()", desk.clear(), 24);
        for (int i = 1; i <= 24; i++) {
            Due.is("step " + i, desk.step(15, 1), i);
        }
        Due.is("run()", desk.run(), 24);
        Due.is("result(23)", desk.result(23), 24);
    }

    /** "24 steps are there ...: REFUSED", whatever the operation, and with 0 .. 8 blocks open. */
    private static void noTwentyFifthStep() {
        for (int open = 0; open <= 8; open++) {
            MonitorDesk desk = new MonitorDesk();
            Due.steps(desk, Due.joined(Due.times(24 - open, 15, 1), Due.times(open, 2, 0)));
            for (int operation = 0; operation <= 15; operation++) {
                Due.is("step 25, operation " + operation, desk.step(operation, 0), -1);
                Due.is("state(0)", desk.state(0), 24);
                Due.is("state(1)", desk.state(1), open);
            }
            Due.is("run()", desk.run(), open == 0 ? 24 : -1);
            Due.is("clear()", desk.clear(), 24);
            Due.is("a step behind clear", desk.step(15, 0), 1);
        }
    }

    /** Blocks that are closed don't count for "it would open a ninth". */
    private static void twelveBlocksButOneOpen() {
        MonitorDesk desk = new MonitorDesk();
        for (int i = 0; i < 12; i++) {
            Due.is("opener", desk.step(2, i), 2 * i + 1);
            Due.is("open", desk.state(1), 1);
            Due.is("END", desk.step(0, i), 2 * i + 2);
            Due.is("closed", desk.state(1), 0);
        }
        Due.is("run()", desk.run(), 24);
        desk.clear();
        Due.steps(desk, Due.joined(Due.times(8, 2, 0), Due.times(8, 0, 0), Due.times(4, 2, 0), Due.times(4, 0, 0)));
        Due.is("run()", desk.run(), 24);
    }

    private static void endNeedsAnOpenBlock() {
        MonitorDesk desk = new MonitorDesk();
        Due.is("END at once", desk.step(0, 0), -1);
        Due.steps(desk, 2, 0, 0, 0);
        Due.is("END too many", desk.step(0, 5), -1);
        Due.steps(desk, 15, 0);
        Due.is("END still", desk.step(0, 0), -1);
        Due.steps(desk, 1, 0, 2, 0, 0, 0, 0, 0);
        Due.is("END after two", desk.step(0, 0), -1);
        Due.is("state(0)", desk.state(0), 7);
        Due.is("state(1)", desk.state(1), 0);
    }

    private static void noNinthBlock() {
        MonitorDesk desk = new MonitorDesk();
        for (int i = 1; i <= 8; i++) {
            Due.is("opener " + i, desk.step(1 + i % 2, 0), i);
            Due.is("state(1)", desk.state(1), i);
        }
        Due.is("a ninth ENTER", desk.step(1, 0), -1);
        Due.is("a ninth TRY", desk.step(2, 0), -1);
        Due.is("state(1)", desk.state(1), 8);
        Due.is("no block", desk.step(3, 0), 9);
        Due.is("END", desk.step(0, 0), 10);
        Due.is("state(1)", desk.state(1), 7);
        Due.is("an eighth again", desk.step(2, 0), 11);
        Due.is("a ninth again", desk.step(2, 0), -1);
        Due.is("state(0)", desk.state(0), 11);
    }

    private static void refusedStepsChangeNothing() {
        MonitorDesk desk = Due.withLocks(0);
        Due.is("step(0, 0)", desk.step(0, 0), -1);
        Due.steps(desk, 1, 0);
        Due.is("step(16, 0)", desk.step(16, 0), -1);
        Due.steps(desk, 15, 7);
        Due.is("step(-1, 0)", desk.step(-1, 0), -1);
        Due.steps(desk, 0, 0);
        Due.is("step(0, 0)", desk.step(0, 0), -1);
        Due.is("run()", desk.run(), 3);
        Due.results("with refusals", desk, 1, 7, 0);
    }
}
