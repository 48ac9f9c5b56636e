/** Promise 8. */
public final class StateTest {
    public static void main(String[] args) {
        MonitorDesk desk = Due.withLocks(1, 2);
        desk.hold(4, 2);
        for (int what : new int[] {-1, 10, 11, Due.MIN, Due.MAX}) {
            Due.is("state(" + what + ")", desk.state(what), -1);
        }
        all("handles", desk, 0, 0, 0, 0, 0, -2, 1, 2, -2, 2);
        Due.steps(desk, 12, 3, 15, -50, 7, 0, 1, 1, 2, 0);
        all("not run", desk, 5, 2, 0, 0, 0, -2, 1, 2, -2, 2);
        Due.steps(desk, 0, 0);
        all("one END", desk, 6, 1, 0, 0, 0, -2, 1, 2, -2, 2);
        Due.steps(desk, 0, 0);
        Due.is("run()", desk.run(), 7);
        all("run", desk, 7, 0, -46, 1, 1, -2, 1, 2, -2, 2);
        Due.is("run()", desk.run(), 1);
        all("run again", desk, 7, 0, -46, 1, 1, -2, 1, 2, -2, 2);
        desk.clear();
        Due.steps(desk, 8, 0, 12, 0, 12, 1, 12, 2, 15, 4);
        Due.is("run()", desk.run(), 5);
        all("the last run", desk, 5, 0, -36, 0, 4, -2, 1, 2, -2, 2);
        desk.hold(0, 4);
        all("the least handle", desk, 5, 0, -36, 0, 4, 0, 1, 0, -2, 0);
        Due.end();
    }

    private static void all(String when, MonitorDesk desk, int... due) {
        for (int what = 0; what < due.length; what++) {
            Due.is(when + ": state(" + what + ")", desk.state(what), due[what]);
        }
    }
}
