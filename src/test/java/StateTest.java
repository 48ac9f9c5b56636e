/** Promise 8. */
public final class StateTest {
    public static void main(String[] args) {
        MonitorDesk desk = Due.withLocks(1, 2);
        desk.hold(4, 2);
        for (int what : new int[] {-1, 10, 11, Due.MIN, Due.MAX}) {
            Due.is("state(" + what + ")", desk.state(what), -1);
        }
        all("handles", desk, 0, 0, 0, 0, 0, -2, 1, 2, -2, 2);
        Due.steps(desk, 12, 3, 15, -50, 7, 0, 1, 1, 2, 0);
        all("not run", desk, 5, 2, 0, 0, 0, -2, 1, 2, -2, 2);
        Due.steps(desk, 0, 0);
        all("one END", desk, 6, 1, 0, 0, 0, -2, 1, 2, -2, 2);
        Due.steps(desk, 0, 0);
        Due.is("run()", desk.run(), 7);
        all("run", desk, 7, 0, -46, 1, 1, -2, 1, 2, -2, 2);
        Due.is("run()", desk.run(), 1);
        all("run again", desk, 7, 0, -46, 1, 1, -2, 1, 2, -2, 2);
        desk.clear();
        Due.steps(desk, 8, 0, 12, 0, 12, 1, 12, 2, 15, 4);
        Due.is("run()", desk.run(), 5);
        all("the last run", desk, 5, 0, -36, 0, 4, -2, 1, 2, -2, 2);
        desk.hold(0, 4);
        all("the least handle", desk, 5, 0, -36, 0, 4, 0, 1, 0, -2, 0);
        whatIsRefused();
        eachCountOfStepsAndOpenBlocks();
        eachSetOfThreads();
        eachWayToShare();
        Due.end();
    }

    private static void whatIsRefused() {
        MonitorDesk desk = new MonitorDesk();
        for (int what = -40; what <= 40; what++) {
            int due = what < 0 || what > 9 ? -1 : what < 5 ? 0 : -2;
            Due.is("state(" + what + ")", desk.state(what), due);
        }
    }

    private static void eachCountOfStepsAndOpenBlocks() {
        MonitorDesk desk = new MonitorDesk();
        for (int steps = 1; steps <= 24; steps++) {
            desk.step(steps <= 8 ? 1 + steps % 2 : steps <= 16 ? 0 : 15, 0);
            all(steps + " steps", desk, steps, steps <= 8 ? steps : steps <= 16 ? 16 - steps : 0);
        }
    }

    private static void eachSetOfThreads() {
        for (int set = 0; set < 16; set++) {
            MonitorDesk desk = new MonitorDesk();
            int total = 0;
            for (int thread = 0; thread < 4; thread++) {
                if ((set >> thread & 1) == 1) {
                    Due.steps(desk, 12, thread);
                    total += thread + 1;
                }
            }
            Due.is("run()", desk.run(), Integer.bitCount(set));
            Due.is("TOTAL of set " + set, desk.state(2), total);
            Due.is("ENDED of set " + set, desk.state(4), Integer.bitCount(set));
        }
    }

    /** Each handle null, with a new lock, or with that of one before it: 2 * 3 * 4 * 5 * 6 ways. */
    private static void eachWayToShare() {
        for (int way = 0; way < 720; way++) {
            MonitorDesk desk = new MonitorDesk();
            int[] due = new int[5];
            int rest = way;
            for (int handle = 0; handle < 5; handle++) {
                int from = rest % (handle + 2) - 2;
                rest /= handle + 2;
                desk.hold(handle, from);
                due[handle] = from == -2 ? handle : from == -1 ? -2 : due[from];
            }
            all("way " + way, desk, 0, 0, 0, 0, 0, due[0], due[1], due[2], due[3], due[4]);
        }
    }

    private static void all(String when, MonitorDesk desk, int... due) {
        for (int what = 0; what < due.length; what++) {
            Due.is(when + ": state(" + what + ")", desk.state(what), due[what]);
        }
    }
}
