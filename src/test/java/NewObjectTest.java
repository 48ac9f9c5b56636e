/** Promise 1, and the constants. */
public final class NewObjectTest {
    public static void main(String[] args) {
        Due.is("DONE", MonitorDesk.DONE, 0);
        Due.is("REFUSED", MonitorDesk.REFUSED, -1);
        Due.is("NOT_DONE", MonitorDesk.NOT_DONE, -9);
        MonitorDesk desk = new MonitorDesk();
        for (int what = 0; what <= 4; what++) {
            Due.is("state(" + what + ")", desk.state(what), 0);
        }
        for (int handle = 0; handle < 5; handle++) {
            Due.is("state of handle " + handle, desk.state(5 + handle), -2);
        }
        Due.results("new", desk);
        Due.is("failure()", desk.failure(), 0);
        Due.is("clear()", desk.clear(), 0);
        Due.is("run()", desk.run(), 0);
        asItsOperationsTell();
        objectsAreApart();
        Due.end();
    }

    /** "HANDLES ... null (at first)", "THREADS 0 .. 3 are NEW at first", "TOTAL ... 0", "The FLAG ... not at first". */
    private static void asItsOperationsTell() {
        Due.runs("a new one", new MonitorDesk(), Due.program(9, 0, 8, 0, 15, 0, 14, 0, 14, 1, 14, 2, 14, 3, 13, 0,
            13, 1, 13, 2, 13, 3), 11, 0, new int[11]);
        for (int handle = 0; handle < 5; handle++) {
            Due.runs("handle " + handle, new MonitorDesk(), Due.program(5, handle), 1, 1, -999);
        }
        MonitorDesk desk = new MonitorDesk();
        Due.is("END", desk.step(0, 0), -1);
        Due.is("steps", desk.clear(), 0);
    }

    private static void objectsAreApart() {
        MonitorDesk one = Due.withLocks(0);
        Due.steps(one, 7, 0, 12, 2, 15, 9);
        Due.is("run()", one.run(), 3);
        MonitorDesk other = new MonitorDesk();
        for (int what = 0; what <= 4; what++) {
            Due.is("another's state(" + what + ")", other.state(what), 0);
        }
        Due.is("another's state(5)", other.state(5), -2);
        Due.results("another", other);
    }
}
