/** Promise 4. */
public final class ClearTest {
    public static void main(String[] args) {
        MonitorDesk desk = Due.withLocks(2);
        Due.steps(desk, 15, 5, 7, 0, 12, 1, 11, 3);
        Due.is("run()", desk.run(), 4);
        Due.is("clear()", desk.clear(), 4);
        Due.is("clear() again", desk.clear(), 0);
        Due.results("kept", desk, 5, 0, 0, -897);
        Due.is("failure()", desk.failure(), 103);
        Due.is("TOTAL", desk.state(2), 7);
        Due.is("the FLAG", desk.state(3), 1);
        Due.is("threads", desk.state(4), 1);
        Due.is("handle 2", desk.state(7), 2);
        Due.is("steps", desk.state(0), 0);
        openBlocksGoToo(desk);
        eachCountOfSteps();
        Due.end();
    }

    private static void eachCountOfSteps() {
        for (int steps = 0; steps <= 8; steps++) {
            MonitorDesk desk = new MonitorDesk();
            Due.steps(desk, Due.times(steps, 2, 0));
            Due.is("clear()", desk.clear(), steps);
            Due.is("steps", desk.state(0), 0);
            Due.is("open blocks", desk.state(1), 0);
        }
        for (int steps = 9; steps <= 24; steps++) {
            MonitorDesk desk = new MonitorDesk();
            Due.steps(desk, Due.times(steps, 3, 0));
            Due.is("clear()", desk.clear(), steps);
            Due.is("clear() again", desk.clear(), 0);
        }
    }

    private static void openBlocksGoToo(MonitorDesk desk) {
        Due.steps(desk, 1, 2, 2, 0, 1, 2);
        Due.is("run()", desk.run(), -1);
        Due.is("clear()", desk.clear(), 3);
        Due.is("open blocks", desk.state(1), 0);
        Due.is("END behind clear", desk.step(0, 0), -1);
        Due.results("still kept", desk, 5, 0, 0, -897);
        Due.steps(desk, 11, 8);
        Due.is("run()", desk.run(), 1);
        Due.results("none of the old blocks catches", desk, -892);
        Due.is("clear()", desk.clear(), 1);
        Due.is("run() of none", desk.run(), 0);
        Due.results("a run of none", desk);
        Due.is("failure()", desk.failure(), 0);
    }
}
