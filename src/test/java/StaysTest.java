/** What stays over a clear, a hold, a step, over what only reads, and over the next run. */
public final class StaysTest {
    /** The places in Due.reads. */
    private static final int STEPS = 0;
    private static final int OPEN = 1;
    private static final int FIRST_HANDLE = 5;
    private static final int LAST_HANDLE = 9;

    public static void main(String[] args) {
        overClear();
        overHold();
        overStep();
        overReading();
        overTheNextRun();
        noLockIsHeldFromTheRunBefore();
        overARefusedRun();
        Due.end();
    }

    /** A desk behind a run that failed: every answer that can be read is another than a new desk's. */
    private static MonitorDesk worked() {
        MonitorDesk desk = Due.withLocks(0, 2);
        desk.hold(3, 2);
        return Due.runs("worked", desk,
            Due.program(12, 1, 15, 40, 2, 0, 1, 0, 10, -1, 0, 0, 0, 0, 7, 0, 1, 3, 11, 5, 0, 0), 8, 105,
            0, 42, 3, 1, -997, -9, -9, 0, 1, -895);
    }

    private static void overClear() {
        MonitorDesk desk = worked();
        int[] before = Due.reads(desk);
        Due.is("clear()", desk.clear(), 11);
        Due.same("clear of a whole program", before, Due.reads(desk), STEPS, STEPS);
        Due.is("steps", desk.state(0), 0);
        Due.is("clear()", desk.clear(), 0);
        Due.same("clear of the empty program", before, Due.reads(desk), STEPS, STEPS);
        Due.steps(desk, 2, 0, 1, 0);
        Due.is("clear()", desk.clear(), 2);
        Due.same("clear of one that isn't whole", before, Due.reads(desk), STEPS, STEPS);
        Due.is("steps", desk.state(0), 0);
        Due.is("open blocks", desk.state(1), 0);
    }

    private static void overHold() {
        MonitorDesk desk = worked();
        int[] before = Due.reads(desk);
        for (int handle = 0; handle < 5; handle++) {
            for (int from = -2; from < 5; from++) {
                Due.is("hold(" + handle + ", " + from + ")", desk.hold(handle, from), 0);
            }
            Due.same("holds of " + handle, before, Due.reads(desk), FIRST_HANDLE, LAST_HANDLE);
        }
    }

    private static void overStep() {
        MonitorDesk desk = worked();
        int[] before = Due.reads(desk);
        Due.steps(desk, 2, 0, 15, 7, 12, 0, 8, 0, 0, 0, 1, 0);
        Due.same("six steps", before, Due.reads(desk), STEPS, OPEN);
        Due.is("steps", desk.state(0), 17);
        Due.is("open blocks", desk.state(1), 1);
    }

    private static void overReading() {
        MonitorDesk desk = worked();
        Due.steps(desk, 1, 0);
        int[] before = Due.reads(desk);
        Due.same("read again", before, Due.reads(desk), 0, -1);
        Due.steps(desk, 0, 0);
        Due.is("run() of the program that was only read", desk.run(), 1);
    }

    private static void overTheNextRun() {
        MonitorDesk desk = worked();
        int[] before = Due.reads(desk);
        desk.clear();
        Due.is("run() of none", desk.run(), 0);
        int[] after = Due.reads(desk);
        for (int what = 1; what < 10; what++) {
            Due.is("run of none: state(" + what + ")", after[what], before[what]);
        }
        Due.is("run of none: failure()", desk.failure(), 0);
        Due.results("run of none", desk);
        Due.runs("the FLAG, TOTAL and the threads", desk,
            Due.program(9, 0, 15, 0, 14, 0, 14, 1, 14, 2, 14, 3, 13, 1, 5, 0, 5, 2, 5, 3), 10, 0,
            1, 42, 0, 1, 0, 0, 1, 0, 0, 0);
        Due.is("the same program again", desk.run(), 10);
        Due.is("steps", desk.state(0), 10);
    }

    private static void noLockIsHeldFromTheRunBefore() {
        MonitorDesk desk = worked();
        desk.clear();
        Due.runs("behind a failure within an ENTER", desk, Due.program(3, 3), 1, 2, -998);
        desk.clear();
        Due.runs("first", desk, Due.program(1, 2, 0, 0, 1, 3, 0, 0), 4, 0, 1, 0, 1, 0);
        Due.is("again", desk.run(), 4);
        Due.results("again", desk, 1, 0, 1, 0);
    }

    private static void overARefusedRun() {
        for (int open = 1; open <= 8; open++) {
            MonitorDesk desk = worked();
            Due.steps(desk, Due.times(open, 1 + open % 2, 0));
            int[] before = Due.reads(desk);
            Due.is("run() with " + open + " open", desk.run(), -1);
            Due.same("a refused run", before, Due.reads(desk), 0, -1);
        }
    }
}
