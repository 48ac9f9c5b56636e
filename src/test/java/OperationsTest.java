/** The sixteen operations, each with ordinary, edge and wrong arguments. */
public final class OperationsTest {
    public static void main(String[] args) {
        handlesModulo5();
        notifying();
        holding();
        waiting();
        waitingTestsInOrder();
        interrupting();
        sleeping();
        throwing();
        starting();
        threadsModulo4();
        adding();
        lookingAtNothingElse();
        Due.end();
    }

    private static void handlesModulo5() {
        // MIN is 2 modulo 5 and MAX is 2 as well; -1 is 4.
        Due.runs("ENTER", Due.withLocks(2), Due.program(1, Due.MIN, 1, Due.MAX, 1, -3, 1, 7, 0, 0, 0, 0, 0, 0, 0, 0),
            8, 0, 1, 2, 3, 4, 3, 2, 1, 0);
        Due.runs("HOLDS", Due.withLocks(2, 4), Due.program(1, -1, 5, 2, 5, 4, 5, 9, 5, -6, 5, Due.MIN, 0, 0),
            7, 0, 1, 0, 1, 1, 1, 0, 0);
        Due.runs("NOTIFY", Due.withLocks(2), Due.program(1, 2, 3, Due.MIN, 4, -3, 3, -8, 4, 12, 0, 0),
            6, 0, 1, 0, 0, 0, 0, 0);
    }

    private static void notifying() {
        for (int operation = 3; operation <= 4; operation++) {
            String what = "operation " + operation;
            Due.runs(what + " held", Due.withLocks(0), Due.program(1, 0, operation, 0, 0, 0), 3, 0, 1, 0, 0);
            Due.runs(what + " not held", Due.withLocks(0, 1), Due.program(1, 1, operation, 0, 0, 0), 2, 2, 1, -998);
            Due.runs(what + " null", Due.withLocks(0), Due.program(1, 0, operation, 1, 0, 0), 2, 1, 1, -999);
        }
    }

    private static void holding() {
        Due.runs("HOLDS", Due.withLocks(0, 1), Due.program(5, 0, 1, 0, 1, 0, 5, 0, 5, 1, 0, 0, 5, 0, 0, 0, 5, 0, 5, 2),
            10, 1, 0, 1, 2, 1, 0, 1, 1, 0, 0, -999);
    }

    private static void waiting() {
        Due.runs("a held lock", Due.withLocks(1), Due.program(1, 1, 6, 1, 6, 6, 6, Due.MAX - 1, 0, 0),
            5, 0, 1, -2, -2, -2, 0);
        Due.runs("0 is no time below 0", Due.withLocks(0), Due.program(1, 0, 6, 0, 6, 5, 0, 0), 4, 0, 1, -2, -2, 0);
        Due.runs("not held", Due.withLocks(1), Due.program(6, 1), 1, 2, -998);
        Due.runs("null", Due.withLocks(1), Due.program(6, 0), 1, 1, -999);
        Due.runs("MAX is handle 2", Due.withLocks(0, 1, 3, 4), Due.program(6, Due.MAX), 1, 1, -999);
        MonitorDesk desk = Due.withLocks(1);
        Due.runs("interrupted", desk, Due.program(7, 0, 1, 1, 1, 1, 2, 0, 6, 1, 0, 0, 5, 1, 9, 0, 6, 1, 0, 0, 0, 0),
            10, 0, 0, 1, 2, 4, -996, -9, 1, 0, -2, 1, 0);
        Due.is("the FLAG", desk.state(3), 0);
    }

    private static void waitingTestsInOrder() {
        MonitorDesk flagged = Due.withLocks(1);
        Due.runs("null first", flagged, Due.program(7, 0, 6, -3), 2, 1, 0, -999);
        flagged.clear();
        // Without its sign -1 is handle 1, which modulo 5 not below 0 would make handle 4.
        Due.runs("then the time", flagged, Due.program(6, -1), 1, 3, -997);
        flagged.clear();
        Due.runs("the time though it is held", flagged, Due.program(1, 1, 6, -6, 0, 0), 2, 3, 1, -997);
        flagged.clear();
        Due.runs("then the monitor", flagged, Due.program(6, 1), 1, 2, -998);
        Due.is("the FLAG is untouched", flagged.state(3), 1);
        flagged.clear();
        Due.runs("then the FLAG", flagged, Due.program(1, 1, 6, 1, 0, 0), 2, 4, 1, -996);
        Due.is("the FLAG is set no more", flagged.state(3), 0);
        Due.runs("MIN is handle 0, null", Due.withLocks(1, 2, 3, 4), Due.program(6, Due.MIN), 1, 1, -999);
        Due.runs("MIN is a time below 0", Due.withLocks(0), Due.program(1, 0, 6, Due.MIN, 0, 0), 2, 3, 1, -997);
    }

    private static void interrupting() {
        MonitorDesk desk = new MonitorDesk();
        Due.runs("the FLAG", desk, Due.program(9, 0, 8, 0, 7, 0, 9, 0, 9, 1, 7, 2, 8, 3, 9, 4, 8, 5, 7, 6),
            10, 0, 0, 0, 0, 1, 1, 0, 1, 0, 0, 0);
        Due.is("state(3)", desk.state(3), 1);
        desk.clear();
        Due.runs("over runs", desk, Due.program(9, 0, 8, 0), 2, 0, 1, 1);
        Due.is("state(3)", desk.state(3), 0);
        desk.clear();
        Due.runs("a failure keeps it", desk, Due.program(7, 0, 11, 0), 2, 100, 0, -900);
        Due.is("state(3)", desk.state(3), 1);
    }

    private static void sleeping() {
        Due.runs("not interrupted", new MonitorDesk(), Due.program(10, 0, 10, 1, 10, Due.MAX, 10, -1),
            4, 3, 0, 0, 0, -997);
        Due.runs("MIN", new MonitorDesk(), Due.program(10, Due.MIN), 1, 3, -997);
        MonitorDesk desk = new MonitorDesk();
        Due.runs("below 0 and interrupted", desk, Due.program(7, 0, 10, -1), 2, 3, 0, -997);
        Due.is("the FLAG is untouched", desk.state(3), 1);
        desk.clear();
        Due.runs("interrupted", desk, Due.program(2, 0, 10, 0, 0, 0, 10, 0), 3, 0, 4, -996, -9, 0);
        Due.is("the FLAG is set no more", desk.state(3), 0);
    }

    private static void throwing() {
        int[][] codes = {{0, 100}, {1, 101}, {99, 199}, {100, 100}, {-1, 199}, {-100, 100}, {-101, 199},
            {Due.MAX, 147}, {Due.MIN, 152}};
        for (int[] code : codes) {
            String what = "THROW " + code[0];
            Due.runs(what, new MonitorDesk(), Due.program(11, code[0], 15, 1), 1, code[1], code[1] - 1000);
            Due.runs(what + " caught", new MonitorDesk(), Due.program(2, 0, 11, code[0], 0, 0, 15, 1),
                3, 0, code[1], code[1] - 1000, -9, 1);
        }
    }

    private static void starting() {
        MonitorDesk desk = new MonitorDesk();
        Due.runs("START", desk, Due.program(7, 0, 14, 0, 13, 0, 12, 0, 14, 0, 13, 0, 13, 1, 12, 1, 9, 0),
            9, 0, 0, 0, 0, 0, 1, 1, 0, 0, 1);
        Due.is("TOTAL", desk.state(2), 3);
        Due.is("threads", desk.state(4), 2);
        desk.clear();
        Due.runs("START of one ENDED", desk, Due.program(2, 0, 12, 1, 0, 0, 12, 3, 12, 2, 12, 2),
            5, 5, 5, -995, -9, 0, 0, -995);
        Due.is("TOTAL", desk.state(2), 10);
        Due.is("threads", desk.state(4), 4);
        Due.is("the FLAG", desk.state(3), 1);
    }

    private static void threadsModulo4() {
        MonitorDesk desk = new MonitorDesk();
        Due.runs("below 0", desk, Due.program(12, -1, 14, 3, 14, 7, 14, -5, 13, Due.MAX, 13, Due.MIN), 6, 0,
            0, 1, 1, 1, 1, 0);
        Due.is("TOTAL", desk.state(2), 4);
        desk.clear();
        Due.runs("MIN", desk, Due.program(12, Due.MIN, 13, 0, 13, 1, 13, 2, 14, 4, 14, 5), 6, 0, 0, 1, 0, 0, 1, 0);
        Due.is("TOTAL", desk.state(2), 5);
    }

    private static void adding() {
        MonitorDesk desk = new MonitorDesk();
        Due.runs("ADD", desk, Due.program(15, Due.MAX, 15, 1, 15, -1, 15, Due.MIN, 15, 0, 12, 0, 15, -9), 7, 0,
            Due.MAX, Due.MIN, Due.MAX, -1, -1, 0, -9);
        Due.is("TOTAL", desk.state(2), -9);
        desk.clear();
        Due.runs("over runs", desk, Due.program(15, 10), 1, 0, 1);
        desk.clear();
        Due.runs("START wraps", desk, Due.program(15, Due.MAX - 1, 12, 1), 2, 0, Due.MAX, 0);
        Due.is("TOTAL", desk.state(2), Due.MIN + 1);
    }

    /** Each operation looks at what its own line names: here with all locks held, with and without the FLAG. */
    private static void lookingAtNothingElse() {
        // Operation, argument, result; the FLAG behind it is as before, and a block is closed at once.
        int[][] flagIsAsBefore = {{1, 3, 2}, {2, 0, 0}, {3, 1, 0}, {4, 2, 0}, {5, 4, 1}, {12, 2, 0}, {13, 2, 0},
            {13, 3, 1}, {14, 2, 0}, {14, 3, 1}, {15, 9, 13}};
        for (int[] row : flagIsAsBefore) {
            withAllLocksHeld(row[0], row[1], 0, row[2], 0);
            withAllLocksHeld(row[0], row[1], 1, row[2], 1);
        }
        withAllLocksHeld(6, 3, 0, -2, 0);
        withAllLocksHeld(7, 0, 0, 0, 1);
        withAllLocksHeld(7, 0, 1, 0, 1);
        withAllLocksHeld(8, 0, 0, 0, 0);
        withAllLocksHeld(8, 0, 1, 1, 0);
        withAllLocksHeld(9, 0, 0, 0, 0);
        withAllLocksHeld(9, 0, 1, 1, 1);
        withAllLocksHeld(10, 8, 0, 0, 0);
    }

    /** Thread 3 is ENDED and TOTAL is 4 before; the locks that were held are held behind the operation too. */
    private static void withAllLocksHeld(int operation, int argument, int flag, int result, int flagBehind) {
        String what = "operation " + operation + " of " + argument + (flag == 1 ? " with the FLAG" : "");
        MonitorDesk desk = Due.withLocks(0, 1, 2, 3, 4);
        Due.steps(desk, 12, 3, flag == 1 ? 7 : 8, 0);
        Due.is("run()", desk.run(), 2);
        desk.clear();
        boolean opens = operation <= 2;
        Due.runs(what, desk,
            Due.joined(Due.program(1, 0, 1, 1, 1, 2, 1, 3, 1, 4, operation, argument, opens ? 0 : 9, 0),
                Due.program(5, 0, 5, 1, 5, 2, 5, 3, 5, 4), Due.times(5, 0, 0)),
            17, 0, 1, 1, 1, 1, 1, result, opens ? operation % 2 : flagBehind, 1, 1, 1, 1, 1, 0, 0, 0, 0, 0);
        Due.is(what + ": the FLAG", desk.state(3), flagBehind);
        Due.is(what + ": TOTAL", desk.state(2), operation == 12 ? 7 : operation == 15 ? 13 : 4);
        Due.is(what + ": threads", desk.state(4), operation == 12 ? 2 : 1);
    }
}
