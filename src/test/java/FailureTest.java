/** Promise 7. */
public final class FailureTest {
    public static void main(String[] args) {
        eachCode();
        MonitorDesk desk = new MonitorDesk();
        Due.is("failure() of no run", desk.failure(), 0);
        Due.runs("a failure", desk, Due.program(15, 1, 11, 42), 2, 142, 1, -858);
        Due.steps(desk, 2, 0);
        Due.is("failure() behind a step", desk.failure(), 142);
        Due.is("run()", desk.run(), -1);
        Due.is("failure() behind a refused run", desk.failure(), 142);
        Due.is("clear()", desk.clear(), 3);
        Due.is("failure() behind clear", desk.failure(), 142);
        Due.runs("caught", desk, Due.program(2, 0, 11, 42, 0, 0), 2, 0, 142, -858);
        desk.clear();
        Due.runs("a later one", desk, Due.program(2, 0, 11, 1, 0, 0, 11, 2, 11, 3), 3, 102, 101, -899, -9, -898);
        desk.clear();
        Due.is("run() of none", desk.run(), 0);
        Due.is("failure() of a run of none", desk.failure(), 0);
        zeroToNinetyNine();
        refusedRuns();
        Due.end();
    }

    private static void zeroToNinetyNine() {
        MonitorDesk desk = new MonitorDesk();
        for (int own = 0; own < 100; own++) {
            Due.is("step(11, " + own + ")", desk.step(11, own), 1);
            Due.is("run()", desk.run(), 1);
            Due.is("failure()", desk.failure(), 100 + own);
            Due.is("clear()", desk.clear(), 1);
        }
        Due.is("run()", desk.run(), 0);
        Due.is("failure()", desk.failure(), 0);
    }

    /** A run that is refused is no run: the latest one's FAILURE, or that it had none, is told on. */
    private static void refusedRuns() {
        MonitorDesk desk = new MonitorDesk();
        Due.steps(desk, 11, 3, 2, 0);
        Due.is("run()", desk.run(), -1);
        Due.is("failure() of no run", desk.failure(), 0);
        Due.steps(desk, 0, 0);
        Due.is("run()", desk.run(), 1);
        Due.is("failure()", desk.failure(), 103);
    }

    private static void eachCode() {
        Due.runs("NULL", new MonitorDesk(), Due.program(1, 0, 0, 0), 1, 1, -999);
        Due.runs("MONITOR", Due.withLocks(0), Due.program(4, 0), 1, 2, -998);
        Due.runs("ARGUMENT", new MonitorDesk(), Due.program(10, -7), 1, 3, -997);
        Due.runs("INTERRUPTED", new MonitorDesk(), Due.program(7, 0, 10, 7), 2, 4, 0, -996);
        Due.runs("STATE", new MonitorDesk(), Due.program(12, 0, 12, 0), 2, 5, 0, -995);
        Due.runs("OWN", new MonitorDesk(), Due.program(11, 99), 1, 199, -801);
    }
}
