/** Promise 5: wholeness, the count, and where a run goes on behind what is caught. */
public final class RunTest {
    public static void main(String[] args) {
        notWhole();
        oneToEightOpen();
        whatCounts();
        theEmptyProgram();
        argumentsThatMeanNothing();
        caughtByTheInnermost();
        caughtOnlyWithin();
        allIsGivenBack();
        sharedLocksAreOne();
        nullEnterOpensNothing();
        eachRunStartsAnew();
        Due.end();
    }

    private static void notWhole() {
        MonitorDesk desk = Due.withLocks(0);
        Due.steps(desk, 15, 4, 7, 0, 11, 1);
        Due.is("run()", desk.run(), 3);
        Due.steps(desk, 1, 0);
        Due.is("run() with an open ENTER", desk.run(), -1);
        Due.results("refused", desk, 4, 0, -899);
        Due.is("failure()", desk.failure(), 101);
        Due.is("TOTAL", desk.state(2), 4);
        Due.steps(desk, 2, 0, 0, 0);
        Due.is("run() with one still open", desk.run(), -1);
        Due.steps(desk, 0, 0);
        Due.is("run() when whole", desk.run(), 3);
        Due.is("TOTAL", desk.state(2), 8);
        desk.clear();
        Due.steps(desk, 2, 0);
        Due.is("run() with an open TRY", desk.run(), -1);
    }

    /** "The PROGRAM is not WHOLE: REFUSED", until the last block is closed. */
    private static void oneToEightOpen() {
        for (int open = 1; open <= 8; open++) {
            MonitorDesk desk = Due.withLocks(0);
            Due.steps(desk, Due.joined(Due.program(15, 1), Due.times(open, 1, 0)));
            for (int left = open; left > 0; left--) {
                Due.is("run() with " + left + " open", desk.run(), -1);
                Due.results("refused", desk);
                Due.is("TOTAL", desk.state(2), 0);
                Due.steps(desk, 0, 0);
            }
            Due.is("run() with none open", desk.run(), 1 + 2 * open);
            Due.is("TOTAL", desk.state(2), 1);
        }
    }

    /** "each that gave a result or threw counts once, each END of a block that was not left by a THROWING too". */
    private static void whatCounts() {
        Due.runs("results alone", Due.withLocks(0), Due.program(1, 0, 3, 0, 0, 0), 3, 0, 1, 0, 0);
        Due.runs("a TRY that caught counts once", new MonitorDesk(), Due.program(2, 0, 11, 0, 0, 0), 2, 0, 100, -900);
        Due.runs("the END of a TRY that caught nothing", new MonitorDesk(), Due.program(2, 0, 0, 0), 2, 0, 0, 0);
        Due.runs("the END of an ENTER that was left", Due.withLocks(0),
            Due.program(2, 0, 1, 0, 11, 0, 0, 0, 0, 0, 15, 1), 4, 0, 100, 1, -900, -9, -9, 1);
        Due.runs("the END of the outer TRY", new MonitorDesk(),
            Due.program(2, 0, 2, 0, 11, 0, 0, 0, 0, 0, 15, 1), 5, 0, 0, 100, -900, -9, 0, 1);
        Due.runs("an ENTER of null", new MonitorDesk(), Due.program(1, 0, 15, 1, 0, 0, 15, 1), 1, 1, -999);
        Due.runs("the one that threw last", new MonitorDesk(), Due.program(15, 1, 11, 0, 15, 1), 2, 100, 1, -900);
        Due.runs("twenty-four", new MonitorDesk(), Due.times(24, 7, 0), 24, 0, new int[24]);
    }

    private static void theEmptyProgram() {
        MonitorDesk desk = new MonitorDesk();
        Due.is("run() of a new object", desk.run(), 0);
        Due.results("a new object", desk);
        Due.runs("one that fails", desk, Due.program(15, 3, 7, 0, 11, 6), 3, 106, 3, 0, -894);
        desk.clear();
        Due.is("run() behind a clear", desk.run(), 0);
        Due.results("all NOT_DONE", desk);
        Due.is("failure()", desk.failure(), 0);
        Due.is("TOTAL", desk.state(2), 3);
        Due.is("the FLAG", desk.state(3), 1);
    }

    /** END closes the latest open block, whatever its argument; TRY and what asks for the FLAG have no use for one. */
    private static void argumentsThatMeanNothing() {
        for (int argument : new int[] {0, 1, 4, 5, -1, -5, Due.MIN, Due.MAX}) {
            Due.runs("argument " + argument, Due.withLocks(0, 1),
                Due.program(1, 0, 1, 1, 0, argument, 5, 0, 5, 1, 0, argument, 2, argument, 11, 3, 0, argument,
                    2, argument, 0, argument, 7, argument, 9, argument, 8, argument, 9, argument, 8, argument),
                15, 0, 1, 1, 0, 1, 0, 0, 103, -897, -9, 0, 0, 0, 1, 1, 0, 0);
        }
    }

    private static void caughtByTheInnermost() {
        Due.runs("nested TRYs", new MonitorDesk(),
            Due.program(2, 0, 2, 0, 15, 1, 11, 0, 15, 10, 0, 0, 15, 100, 11, 99, 15, 1000, 0, 0, 15, 10000),
            7, 0, 199, 100, 1, -900, -9, -9, 101, -801, -9, -9, 10101);
        Due.runs("an inner TRY that is left", new MonitorDesk(),
            Due.program(2, 0, 2, 0, 0, 0, 11, 5, 2, 0, 0, 0, 0, 0, 9, 0),
            5, 0, 105, 0, 0, -895, -9, -9, -9, 0);
        Due.runs("nothing to catch", new MonitorDesk(), Due.program(2, 7, 15, 3, 0, 9), 3, 0, 0, 3, 0);
        Due.runs("one after another", new MonitorDesk(),
            Due.program(2, 0, 11, 1, 0, 0, 2, 0, 11, 2, 0, 0), 4, 0, 101, -899, -9, 102, -898);
    }

    private static void caughtOnlyWithin() {
        Due.runs("behind a TRY", new MonitorDesk(), Due.program(2, 0, 0, 0, 11, 5, 15, 1), 3, 105, 0, 0, -895);
        Due.runs("before a TRY", new MonitorDesk(), Due.program(11, 5, 2, 0, 0, 0), 1, 105, -895);
    }

    private static void allIsGivenBack() {
        MonitorDesk desk = Due.withLocks(0, 1);
        Due.runs("from within ENTERs", desk,
            Due.program(1, 0, 2, 0, 1, 0, 1, 1, 1, 0, 11, 0, 0, 0, 0, 0, 0, 0, 0, 0, 5, 0, 5, 1, 1, 0, 0, 0, 0, 0),
            11, 0, 1, 100, 2, 1, 3, -900, -9, -9, -9, -9, 1, 0, 2, 1, 0);
        desk.clear();
        Due.runs("with no TRY", desk, Due.program(1, 0, 1, 1, 11, 0, 0, 0, 0, 0), 3, 100, 1, 1, -900);
        desk.clear();
        Due.runs("none is held then", desk, Due.program(5, 0, 5, 1, 3, 0), 3, 2, 0, 0, -998);
    }

    private static void sharedLocksAreOne() {
        MonitorDesk desk = Due.withLocks(1);
        desk.hold(4, 1);
        desk.hold(0, 4);
        Due.runs("three handles", desk,
            Due.program(1, 4, 1, 1, 1, 0, 3, 4, 0, 0, 0, 0, 4, 1, 5, 0, 0, 0, 5, 4, 4, 1),
            11, 2, 1, 2, 3, 0, 2, 1, 0, 1, 0, 0, -998);
    }

    private static void nullEnterOpensNothing() {
        MonitorDesk desk = Due.withLocks(0);
        Due.runs("null within a TRY", desk,
            Due.program(1, 0, 2, 0, 1, 0, 1, 3, 15, 1, 0, 0, 0, 0, 0, 0, 5, 0, 0, 0), 6, 0,
            1, 1, 2, -999, -9, -9, -9, -9, 1, 0);
    }

    private static void eachRunStartsAnew() {
        MonitorDesk desk = Due.withLocks(0);
        Due.steps(desk, 12, 3, 1, 0, 8, 0, 7, 0, 0, 0);
        Due.is("run()", desk.run(), 5);
        Due.results("first", desk, 0, 1, 0, 0, 0);
        Due.is("run() again", desk.run(), 1);
        Due.results("second", desk, -995);
        Due.is("failure()", desk.failure(), 5);
        Due.is("the FLAG stays", desk.state(3), 1);
    }
}
