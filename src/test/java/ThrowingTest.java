/**
 * "THROWING a code ends the innermost open TRY at once: blocks within it are left (each ENTER on the way is
 * given back), the code is CAUGHT as the TRY's result, and the run goes on behind its END; with no TRY open
 * the run ends, all is given back, and the code is its FAILURE." Each way to throw stands in each place.
 * On every desk here handles 0 and 1 hold one lock, 2 another, 3 and 4 null.
 */
public final class ThrowingTest {
    /** What throws where lock 2 isn't held, the FLAG is set and thread 3 is ENDED: operation, argument, code. */
    private static final int[][] THROWERS = {
        {1, 3, 1}, {3, 4, 1}, {4, 3, 1}, {5, 4, 1}, {6, 3, 1}, {6, -4, 1},
        {3, 2, 2}, {4, 2, 2}, {6, 2, 2},
        {6, -2, 3}, {6, -1, 3}, {6, Due.MIN, 3}, {10, -1, 3}, {10, Due.MIN, 3},
        {6, 0, 4}, {6, 1, 4}, {10, 0, 4}, {10, Due.MAX, 4},
        {12, 3, 5}, {12, -1, 5},
        {11, 0, 100}, {11, 1, 101}, {11, 99, 199}, {11, -1, 199},
    };
    private static final int[] HOLDS_BOTH = {5, 0, 5, 2};

    public static void main(String[] args) {
        for (int[] thrower : THROWERS) {
            if (!needsLock0(thrower)) {
                atOnce(thrower);
                inATry(thrower);
                aTryThatHasEnded(thrower);
            }
            noTryOpen(thrower);
            withinEntersWithinTry(thrower);
            entersAroundTheTryStay(thrower);
            outOfTheInnerTry(thrower);
            onceMoreBehindTheInnerTry(thrower);
        }
        flagAndTotalAreNotGivenBack();
        eachOfEightTries();
        sevenEntersInOneTry();
        eightEntersAndNoTry();
        lastStepThrows();
        Due.end();
    }

    private static MonitorDesk desk() {
        MonitorDesk desk = Due.withLocks(0, 2);
        desk.hold(1, 0);
        Due.steps(desk, 12, 3, 7, 0);
        Due.is("run()", desk.run(), 2);
        desk.clear();
        return desk;
    }

    /** The thrower; one that opens a block has an END behind it, which is never done, else an ADD, likewise. */
    private static int[] thrown(int[] thrower) {
        return Due.program(thrower[0], thrower[1], thrower[0] == 1 ? 0 : 15, 1);
    }

    private static void look(String what, int[] thrower, int[] program, int done, int failure, int... due) {
        String name = what + ", operation " + thrower[0] + " of " + thrower[1];
        MonitorDesk desk = Due.runs(name, desk(), program, done, failure, due);
        Due.is(name + ": TOTAL", desk.state(2), 4);
        Due.is(name + ": the FLAG", desk.state(3), thrower[2] == 4 ? 0 : 1);
        Due.is(name + ": threads", desk.state(4), 1);
        desk.clear();
        Due.runs(name + ": nothing is held", desk, HOLDS_BOTH, 2, 0, 0, 0);
    }

    /** A WAIT comes to its look at the FLAG only where its lock is held. */
    private static boolean needsLock0(int[] thrower) {
        return thrower[0] == 6 && thrower[2] == 4;
    }

    private static void atOnce(int[] thrower) {
        int code = thrower[2];
        look("at once", thrower, Due.joined(thrown(thrower), Due.program(15, 8)), 1, code, code - 1000);
    }

    private static void inATry(int[] thrower) {
        int code = thrower[2];
        look("in a TRY", thrower, Due.joined(Due.program(2, 0), thrown(thrower), Due.program(0, 0, 15, 0)),
            3, 0, code, code - 1000, -9, -9, 4);
    }

    private static void noTryOpen(int[] thrower) {
        int code = thrower[2];
        look("in ENTERs", thrower, Due.joined(Due.program(1, 0, 1, 1), thrown(thrower), Due.program(0, 0, 0, 0, 15, 8)),
            3, code, 1, 2, code - 1000);
        look("between two TRYs", thrower,
            Due.joined(Due.program(2, 0, 0, 0, 1, 0), thrown(thrower), Due.program(0, 0, 2, 0, 0, 0)),
            4, code, 0, 0, 1, code - 1000);
    }

    private static void withinEntersWithinTry(int[] thrower) {
        int code = thrower[2];
        look("in ENTERs in a TRY", thrower,
            Due.joined(Due.program(2, 0, 1, 0, 1, 1, 1, 0), thrown(thrower), Due.times(4, 0, 0), HOLDS_BOTH),
            7, 0, code, 1, 2, 3, code - 1000, -9, -9, -9, -9, -9, 0, 0);
    }

    private static void entersAroundTheTryStay(int[] thrower) {
        int code = thrower[2];
        look("in an ENTER in a TRY in an ENTER", thrower,
            Due.joined(Due.program(1, 0, 2, 0, 1, 1), thrown(thrower),
                Due.program(0, 0, 0, 0, 5, 1, 1, 1, 0, 0, 0, 0), HOLDS_BOTH),
            10, 0, 1, code, 2, code - 1000, -9, -9, -9, 1, 2, 1, 0, 0, 0);
    }

    private static void outOfTheInnerTry(int[] thrower) {
        int code = thrower[2];
        look("in the inner TRY", thrower,
            Due.joined(Due.program(2, 0, 1, 0, 2, 0), thrown(thrower), Due.program(0, 0, 5, 0, 0, 0, 0, 0), HOLDS_BOTH),
            9, 0, 0, 1, code, code - 1000, -9, -9, 1, 0, 0, 0, 0);
    }

    private static void onceMoreBehindTheInnerTry(int[] thrower) {
        int code = thrower[2];
        look("and once more in the outer TRY", thrower,
            Due.joined(Due.program(2, 0, 1, 0, 2, 0), thrown(thrower),
                Due.program(0, 0, 11, 77, 0, 0, 0, 0), HOLDS_BOTH),
            7, 0, 177, 1, code, code - 1000, -9, -9, -823, -9, -9, 0, 0);
        look("and once more with no TRY", thrower,
            Due.joined(Due.program(1, 0, 2, 0), thrown(thrower), Due.program(0, 0, 11, 77, 0, 0, 2, 0, 0, 0)),
            4, 177, 1, code, code - 1000, -9, -9, -823);
    }

    private static void aTryThatHasEnded(int[] thrower) {
        int code = thrower[2];
        look("in a TRY beside one that has ended", thrower,
            Due.joined(Due.program(2, 0, 2, 0, 0, 0), thrown(thrower), Due.program(0, 0, 15, 0)),
            5, 0, code, 0, 0, code - 1000, -9, -9, 4);
    }

    private static void flagAndTotalAreNotGivenBack() {
        MonitorDesk desk = Due.runs("what was done stays done", new MonitorDesk(),
            Due.program(2, 0, 7, 0, 12, 2, 15, 5, 11, 0, 0, 0, 9, 0, 15, 0, 13, 2),
            8, 0, 100, 0, 0, 8, -900, -9, 1, 8, 1);
        Due.is("TOTAL", desk.state(2), 8);
    }

    private static void eachOfEightTries() {
        int[] program = Due.times(8, 2, 0);
        int[] due = new int[24];
        for (int i = 0; i < 8; i++) {
            program = Due.joined(program, Due.program(11, i, 0, 0));
            due[7 - i] = 100 + i;
            due[8 + 2 * i] = i - 900;
            due[9 + 2 * i] = -9;
        }
        Due.runs("eight TRYs", new MonitorDesk(), program, 16, 0, due);
        program = Due.joined(Due.times(8, 2, 0), Due.program(11, 5), Due.times(8, 0, 0));
        Due.runs("the innermost of eight", new MonitorDesk(), program, 16, 0,
            0, 0, 0, 0, 0, 0, 0, 105, -895, -9, 0, 0, 0, 0, 0, 0, 0);
    }

    private static void sevenEntersInOneTry() {
        int[] inside = Due.joined(Due.times(7, 1, 0), Due.program(11, 9), Due.times(7, 0, 0));
        Due.runs("a TRY around seven ENTERs", desk(),
            Due.joined(Due.program(2, 0), inside, Due.program(0, 0), HOLDS_BOTH),
            11, 0, 109, 1, 2, 3, 4, 5, 6, 7, -891, -9, -9, -9, -9, -9, -9, -9, -9, 0, 0);
        Due.runs("six ENTERs around a TRY around one", desk(),
            Due.joined(Due.times(6, 1, 0), Due.program(2, 0, 1, 0, 11, 9, 0, 0, 0, 0, 5, 0), Due.times(6, 0, 0)),
            16, 0, 1, 2, 3, 4, 5, 6, 109, 7, -891, -9, -9, 1, 5, 4, 3, 2, 1, 0);
    }

    private static void eightEntersAndNoTry() {
        MonitorDesk desk = desk();
        Due.runs("eight ENTERs", desk,
            Due.joined(Due.times(4, 1, 0), Due.times(4, 1, 2), Due.program(11, 9), Due.times(8, 0, 0)),
            9, 109, 1, 2, 3, 4, 1, 2, 3, 4, -891);
        desk.clear();
        Due.runs("nothing is held", desk, HOLDS_BOTH, 2, 0, 0, 0);
    }

    private static void lastStepThrows() {
        int[] due = new int[24];
        for (int i = 0; i < 23; i++) {
            due[i] = 5 + i;
        }
        due[23] = -999;
        Due.runs("as step 23", desk(), Due.joined(Due.times(23, 15, 1), Due.program(5, 3)), 24, 1, due);
    }
}
