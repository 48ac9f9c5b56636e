/**
 * "where a handle is meant it is a modulo 5, where a thread, a modulo 4, both not below 0", and WAIT's
 * "the handle is that of a without its sign (the least int as 0), and a below 0 means a time below 0".
 */
public final class ModuloTest {
    /** Argument, its handle, its thread, and the handle that WAIT takes it for. */
    private static final int[][] ARGUMENTS = {
        {0, 0, 0, 0}, {1, 1, 1, 1}, {2, 2, 2, 2}, {3, 3, 3, 3}, {4, 4, 0, 4}, {5, 0, 1, 0}, {6, 1, 2, 1},
        {7, 2, 3, 2}, {8, 3, 0, 3}, {9, 4, 1, 4}, {10, 0, 2, 0}, {19, 4, 3, 4}, {20, 0, 0, 0},
        {-1, 4, 3, 1}, {-2, 3, 2, 2}, {-3, 2, 1, 3}, {-4, 1, 0, 4}, {-5, 0, 3, 0}, {-6, 4, 2, 1}, {-7, 3, 1, 2},
        {-8, 2, 0, 3}, {-9, 1, 3, 4}, {-10, 0, 2, 0}, {-20, 0, 0, 0},
        {Due.MAX, 2, 3, 2}, {Due.MAX - 1, 1, 2, 1}, {Due.MAX - 2, 0, 1, 0}, {Due.MAX - 3, 4, 0, 4},
        {Due.MIN, 2, 0, 0}, {Due.MIN + 1, 3, 1, 2}, {Due.MIN + 2, 4, 2, 1}, {Due.MIN + 3, 0, 3, 0},
        {Due.MIN + 4, 1, 0, 4},
    };
    private static final int[] OPENING = {1, 3, 4, 5};

    public static void main(String[] args) {
        for (int[] row : ARGUMENTS) {
            for (int operation : OPENING) {
                nullOfThatHandleAlone(operation, row[0], row[1]);
            }
            enters(row[0], row[1]);
            notifiesAndHolds(row[0], row[1]);
            waits(row[0], row[3]);
            starts(row[0], row[2]);
            joins(row[0], row[2]);
        }
        Due.end();
    }

    private static MonitorDesk withAllBut(int handle) {
        MonitorDesk desk = Due.withLocks(0, 1, 2, 3, 4);
        Due.is("hold(" + handle + ", -1)", desk.hold(handle, -1), 0);
        return desk;
    }

    private static void nullOfThatHandleAlone(int operation, int argument, int handle) {
        String what = "operation " + operation + " of " + argument;
        int[] program = Due.program(operation, argument);
        if (operation == 1) {
            program = Due.program(1, argument, 0, 0);
        }
        Due.runs(what + ", null", withAllBut(handle), program, 1, 1, -999);
        MonitorDesk desk = Due.withLocks(handle);
        Due.steps(desk, program);
        desk.run();
        Due.is(what + ", not null", desk.result(0) != -999, true);
    }

    private static void enters(int argument, int handle) {
        int[] holds = Due.program(5, 0, 5, 1, 5, 2, 5, 3, 5, 4);
        MonitorDesk desk = Due.withLocks(0, 1, 2, 3, 4);
        Due.steps(desk, Due.joined(Due.program(1, argument), holds, Due.program(0, 0), holds));
        Due.is("run()", desk.run(), 12);
        for (int i = 0; i < 5; i++) {
            Due.is("ENTER " + argument + ": HOLDS " + i, desk.result(1 + i), i == handle ? 1 : 0);
            Due.is("END of ENTER " + argument + ": HOLDS " + i, desk.result(7 + i), 0);
        }
        desk = Due.withLocks(0, 1, 2, 3, 4);
        Due.steps(desk, Due.joined(Due.program(1, handle, 2, 0, 1, argument, 5, handle, 11, 0, 0, 0, 0, 0), holds));
        Due.steps(desk, Due.joined(Due.program(0, 0), holds));
        Due.is("run()", desk.run(), 16);
        Due.is("the second ENTER", desk.result(2), 2);
        Due.is("the END of the first", desk.result(12), 0);
        for (int i = 0; i < 5; i++) {
            Due.is("ENTER " + argument + " left: HOLDS " + i, desk.result(7 + i), i == handle ? 1 : 0);
            Due.is("the first ended: HOLDS " + i, desk.result(13 + i), 0);
        }
    }

    private static void notifiesAndHolds(int argument, int handle) {
        Due.runs("held alone: " + argument, Due.withLocks(0, 1, 2, 3, 4),
            Due.program(1, handle, 3, argument, 4, argument, 5, argument, 0, 0), 5, 0, 1, 0, 0, 1, 0);
        int[] enters = {};
        for (int i = 0; i < 5; i++) {
            enters = i == handle ? enters : Due.joined(enters, Due.program(1, i));
        }
        for (int operation = 3; operation <= 4; operation++) {
            Due.runs("all others held: " + argument, Due.withLocks(0, 1, 2, 3, 4),
                Due.joined(enters, Due.program(5, argument, operation, argument), Due.times(4, 0, 0)),
                6, 2, 1, 1, 1, 1, 0, -998);
        }
    }

    private static void waits(int argument, int handle) {
        String what = "WAIT " + argument;
        Due.runs(what + ", null", withAllBut(handle), Due.program(6, argument), 1, 1, -999);
        int late = argument < 0 ? 3 : 2;
        Due.runs(what + ", not held", Due.withLocks(handle), Due.program(6, argument), 1, late, late - 1000);
        int[] held = Due.program(1, handle, 6, argument, 0, 0);
        if (argument < 0) {
            Due.runs(what + ", held", Due.withLocks(handle), held, 2, 3, 1, -997);
        } else {
            Due.runs(what + ", held", Due.withLocks(handle), held, 3, 0, 1, -2, 0);
        }
    }

    private static void starts(int argument, int thread) {
        MonitorDesk desk = Due.runs("START " + argument, new MonitorDesk(),
            Due.program(12, argument, 14, 0, 14, 1, 14, 2, 14, 3, 12, argument), 6, 5,
            0, thread == 0 ? 1 : 0, thread == 1 ? 1 : 0, thread == 2 ? 1 : 0, thread == 3 ? 1 : 0, -995);
        Due.is("TOTAL behind START " + argument, desk.state(2), thread + 1);
        Due.is("threads behind START " + argument, desk.state(4), 1);
    }

    private static void joins(int argument, int thread) {
        Due.runs("of " + argument, new MonitorDesk(),
            Due.program(13, argument, 14, argument, 12, thread, 13, argument, 14, argument), 5, 0, 0, 0, 0, 1, 1);
        MonitorDesk desk = new MonitorDesk();
        for (int other = 0; other < 4; other++) {
            if (other != thread) {
                Due.steps(desk, 12, other);
            }
        }
        Due.runs("of " + argument + " beside all others", desk, Due.program(13, argument, 14, argument),
            5, 0, 0, 0, 0, 0, 0);
    }
}
