/** Promise 1, and the constants. */
public final class NewObjectTest {
    public static void main(String[] args) {
        Due.is("DONE", MonitorDesk.DONE, 0);
        Due.is("REFUSED", MonitorDesk.REFUSED, -1);
        Due.is("NOT_DONE", MonitorDesk.NOT_DONE, -9);
        MonitorDesk desk = new MonitorDesk();
        for (int what = 0; what <= 4; what++) {
            Due.is("state(" + what + ")", desk.state(what), 0);
        }
        for (int handle = 0; handle < 5; handle++) {
            Due.is("state of handle " + handle, desk.state(5 + handle), -2);
        }
        Due.results("new", desk);
        Due.is("failure()", desk.failure(), 0);
        Due.is("clear()", desk.clear(), 0);
        Due.is("run()", desk.run(), 0);
        asItsOperationsTell();
        objectsAreApart();
        twoAtATime();
        Due.end();
    }

    /** "HANDLES ... null (at first)", "THREADS 0 .. 3 are NEW at first", "TOTAL ... 0", "The FLAG ... not at first". */
    private static void asItsOperationsTell() {
        Due.runs("a new one", new MonitorDesk(), Due.program(9, 0, 8, 0, 15, 0, 14, 0, 14, 1, 14, 2, 14, 3, 13, 0,
            13, 1, 13, 2, 13, 3), 11, 0, new int[11]);
        for (int handle = 0; handle < 5; handle++) {
            Due.runs("handle " + handle, new MonitorDesk(), Due.program(5, handle), 1, 1, -999);
        }
        MonitorDesk desk = new MonitorDesk();
        Due.is("END", desk.step(0, 0), -1);
        Due.is("steps", desk.clear(), 0);
    }

    private static void objectsAreApart() {
        MonitorDesk one = Due.withLocks(0);
        Due.steps(one, 7, 0, 12, 2, 15, 9);
        Due.is("run()", one.run(), 3);
        MonitorDesk other = new MonitorDesk();
        for (int what = 0; what <= 4; what++) {
            Due.is("another's state(" + what + ")", other.state(what), 0);
        }
        Due.is("another's state(5)", other.state(5), -2);
        Due.results("another", other);
    }

    /** The calls of two objects by turns: each answers as if it were alone. */
    private static void twoAtATime() {
        MonitorDesk one = new MonitorDesk();
        MonitorDesk other = new MonitorDesk();
        one.hold(0, -2);
        other.hold(1, -2);
        int[] ones = Due.program(2, 0, 1, 0, 15, 5, 11, 7, 0, 0, 0, 0);
        int[] others = Due.program(1, 1, 7, 0, 2, 3, 12, 2, 0, 0, 0, 0);
        for (int i = 0; i < ones.length; i += 2) {
            Due.steps(one, ones[i], ones[i + 1]);
            Due.steps(other, others[i], others[i + 1]);
        }
        Due.is("one's run()", one.run(), 4);
        Due.is("the other's run()", other.run(), 6);
        Due.results("one", one, 107, 1, 5, -893);
        Due.results("the other", other, 1, 0, 0, 0, 0, 0);
        Due.is("one's FLAG", one.state(3), 0);
        Due.is("the other's FLAG", other.state(3), 1);
        Due.is("one's TOTAL", one.state(2), 5);
        Due.is("the other's TOTAL", other.state(2), 3);
    }
}
