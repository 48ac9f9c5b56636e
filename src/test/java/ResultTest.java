/** Promise 6. */
public final class ResultTest {
    public static void main(String[] args) {
        MonitorDesk desk = new MonitorDesk();
        for (int step : new int[] {-1, 24, 25, Due.MIN, Due.MAX}) {
            Due.is("result(" + step + ")", desk.result(step), -1);
        }
        Due.results("no run", desk);
        Due.steps(desk, 15, 1);
        Due.results("a step but no run", desk);
        firstAndLastStep();
        asLastGiven();
        behindTheLastStep();
        codesLess1000();
        latestRun();
        Due.end();
    }

    /** "step 0 .. 23", and "NOT_DONE if it was not done". */
    private static void firstAndLastStep() {
        MonitorDesk desk = new MonitorDesk();
        int[] due = new int[24];
        for (int i = 0; i < 24; i++) {
            due[i] = i + 1;
        }
        Due.runs("24 steps", desk, Due.times(24, 15, 1), 24, 0, due);
        Due.is("result(-1)", desk.result(-1), -1);
        Due.is("result(24)", desk.result(24), -1);
        desk.clear();
        Due.results("cleared", desk, due);
        Due.runs("a shorter one", desk, Due.times(2, 15, 1), 2, 0, 25, 26);
    }

    /** A TRY's result is 0, then the code; and results that look like a code or NOT_DONE are told as they are. */
    private static void asLastGiven() {
        MonitorDesk desk = new MonitorDesk();
        Due.runs("a TRY", desk, Due.program(2, 0, 11, 4, 0, 0), 2, 0, 104, -896);
        desk.clear();
        Due.runs("a TRY that caught before", desk, Due.program(2, 0, 15, 4, 0, 0), 3, 0, 0, 4, 0);
        desk.clear();
        Due.runs("the TOTAL", desk, Due.program(15, -13, 15, 8, 15, -998, 15, Due.MIN, 15, Due.MIN), 5, 0,
            -9, -1, -999, Due.MAX - 998, -999);
    }

    private static void behindTheLastStep() {
        for (int steps = 0; steps < 24; steps++) {
            MonitorDesk desk = new MonitorDesk();
            Due.runs(steps + " steps", desk, Due.times(steps, 10, 1), steps, 0, new int[steps]);
        }
        for (int thrower = 0; thrower < 24; thrower++) {
            int[] due = new int[thrower + 1];
            due[thrower] = -877;
            Due.runs("step " + thrower + " throws", new MonitorDesk(),
                Due.joined(Due.times(thrower, 10, 1), Due.program(11, 23), Due.times(23 - thrower, 10, 1)),
                thrower + 1, 123, due);
        }
    }

    private static void codesLess1000() {
        Due.runs("all codes", Due.withLocks(0),
            Due.program(2, 0, 1, 1, 0, 0, 0, 0, 2, 0, 3, 0, 0, 0, 2, 0, 10, -1, 0, 0, 7, 0, 2, 0, 10, 0, 0, 0,
                12, 0, 2, 0, 12, 0, 0, 0, 2, 0, 11, 50, 0, 0),
            14, 0,
            1, -999, -9, -9, 2, -998, -9, 3, -997, -9, 0, 4, -996, -9, 0, 5, -995, -9, 150, -850, -9);
    }

    private static void latestRun() {
        MonitorDesk desk = new MonitorDesk();
        Due.runs("first", desk, Due.program(15, 1, 15, 1, 15, 1), 3, 0, 1, 2, 3);
        desk.clear();
        Due.runs("shorter", desk, Due.program(15, 1), 1, 0, 4);
        Due.steps(desk, 15, 1);
        Due.results("one more step", desk, 4);
        Due.is("run()", desk.run(), 2);
        Due.results("run again", desk, 5, 6);
        desk.clear();
        Due.runs("not done", desk, Due.program(11, 0, 15, 1), 1, 100, -900);
    }
}
