/** Promise 6. */
public final class ResultTest {
    public static void main(String[] args) {
        MonitorDesk desk = new MonitorDesk();
        for (int step : new int[] {-1, 24, 25, Due.MIN, Due.MAX}) {
            Due.is("result(" + step + ")", desk.result(step), -1);
        }
        Due.results("no run", desk);
        Due.steps(desk, 15, 1);
        Due.results("a step but no run", desk);
        codesLess1000();
        latestRun();
        Due.end();
    }

    private static void codesLess1000() {
        Due.runs("all codes", Due.withLocks(0),
            Due.program(2, 0, 1, 1, 0, 0, 0, 0, 2, 0, 3, 0, 0, 0, 2, 0, 10, -1, 0, 0, 7, 0, 2, 0, 10, 0, 0, 0,
                12, 0, 2, 0, 12, 0, 0, 0, 2, 0, 11, 50, 0, 0),
            14, 0,
            1, -999, -9, -9, 2, -998, -9, 3, -997, -9, 0, 4, -996, -9, 0, 5, -995, -9, 150, -850, -9);
    }

    private static void latestRun() {
        MonitorDesk desk = new MonitorDesk();
        Due.runs("first", desk, Due.program(15, 1, 15, 1, 15, 1), 3, 0, 1, 2, 3);
        desk.clear();
        Due.runs("shorter", desk, Due.program(15, 1), 1, 0, 4);
        Due.steps(desk, 15, 1);
        Due.results("one more step", desk, 4);
        Due.is("run()", desk.run(), 2);
        Due.results("run again", desk, 5, 6);
        desk.clear();
        Due.runs("not done", desk, Due.program(11, 0, 15, 1), 1, 100, -900);
    }
}
