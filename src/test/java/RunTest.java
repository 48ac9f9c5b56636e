/** Promise 5: wholeness, the count, and where a run goes on behind what is caught. */
public final class RunTest {
    public static void main(String[] args) {
        notWhole();
        caughtByTheInnermost();
        caughtOnlyWithin();
        allIsGivenBack();
        sharedLocksAreOne();
        nullEnterOpensNothing();
        eachRunStartsAnew();
        Due.end();
    }

    private static void notWhole() {
        MonitorDesk desk = Due.withLocks(0);
        Due.steps(desk, 15, 4, 7, 0, 11, 1);
        Due.is("run()", desk.run(), 3);
        Due.steps(desk, 1, 0);
        Due.is("run() with an open ENTER", desk.run(), -1);
        Due.results("refused", desk, 4, 0, -899);
        Due.is("failure()", desk.failure(), 101);
        Due.is("TOTAL", desk.state(2), 4);
        Due.steps(desk, 2, 0, 0, 0);
        Due.is("run() with one still open", desk.run(), -1);
        Due.steps(desk, 0, 0);
        Due.is("run() when whole", desk.run(), 3);
        Due.is("TOTAL", desk.state(2), 8);
        desk.clear();
        Due.steps(desk, 2, 0);
        Due.is("run() with an open TRY", desk.run(), -1);
    }

    private static void caughtByTheInnermost() {
        Due.runs("nested TRYs", new MonitorDesk(),
            Due.program(2, 0, 2, 0, 15, 1, 11, 0, 15, 10, 0, 0, 15, 100, 11, 99, 15, 1000, 0, 0, 15, 10000),
            7, 0, 199, 100, 1, -900, -9, -9, 101, -801, -9, -9, 10101);
        Due.runs("an inner TRY that is left", new MonitorDesk(),
            Due.program(2, 0, 2, 0, 0, 0, 11, 5, 2, 0, 0, 0, 0, 0, 9, 0),
            5, 0, 105, 0, 0, -895, -9, -9, -9, 0);
        Due.runs("nothing to catch", new MonitorDesk(), Due.program(2, 7, 15, 3, 0, 9), 3, 0, 0, 3, 0);
        Due.runs("one after another", new MonitorDesk(),
            Due.program(2, 0, 11, 1, 0, 0, 2, 0, 11, 2, 0, 0), 4, 0, 101, -899, -9, 102, -898);
    }

    private static void caughtOnlyWithin() {
        Due.runs("behind a TRY", new MonitorDesk(), Due.program(2, 0, 0, 0, 11, 5, 15, 1), 3, 105, 0, 0, -895);
        Due.runs("before a TRY", new MonitorDesk(), Due.program(11, 5, 2, 0, 0, 0), 1, 105, -895);
    }

    private static void allIsGivenBack() {
        MonitorDesk desk = Due.withLocks(0, 1);
        Due.runs("from within ENTERs", desk,
            Due.program(1, 0, 2, 0, 1, 0, 1, 1, 1, 0, 11, 0, 0, 0, 0, 0, 0, 0, 0, 0, 5, 0, 5, 1, 1, 0, 0, 0, 0, 0),
            11, 0, 1, 100, 2, 1, 3, -900, -9, -9, -9, -9, 1, 0, 2, 1, 0);
        desk.clear();
        Due.runs("with no TRY", desk, Due.program(1, 0, 1, 1, 11, 0, 0, 0, 0, 0), 3, 100, 1, 1, -900);
        desk.clear();
        Due.runs("none is held then", desk, Due.program(5, 0, 5, 1, 3, 0), 3, 2, 0, 0, -998);
    }

    private static void sharedLocksAreOne() {
        MonitorDesk desk = Due.withLocks(1);
        desk.hold(4, 1);
        desk.hold(0, 4);
        Due.runs("three handles", desk,
            Due.program(1, 4, 1, 1, 1, 0, 3, 4, 0, 0, 0, 0, 4, 1, 5, 0, 0, 0, 5, 4, 4, 1),
            11, 2, 1, 2, 3, 0, 2, 1, 0, 1, 0, 0, -998);
    }

    private static void nullEnterOpensNothing() {
        MonitorDesk desk = Due.withLocks(0);
        Due.runs("null within a TRY", desk,
            Due.program(1, 0, 2, 0, 1, 0, 1, 3, 15, 1, 0, 0, 0, 0, 0, 0, 5, 0, 0, 0), 6, 0,
            1, 1, 2, -999, -9, -9, -9, -9, 1, 0);
    }

    private static void eachRunStartsAnew() {
        MonitorDesk desk = Due.withLocks(0);
        Due.steps(desk, 12, 3, 1, 0, 8, 0, 7, 0, 0, 0);
        Due.is("run()", desk.run(), 5);
        Due.results("first", desk, 0, 1, 0, 0, 0);
        Due.is("run() again", desk.run(), 1);
        Due.results("second", desk, -995);
        Due.is("failure()", desk.failure(), 5);
        Due.is("the FLAG stays", desk.state(3), 1);
    }
}
