/** "An object is used for at most 512 calls after it has been made": the 512th answers as the first. */
public final class LifetimeTest {
    private static final int CALLS = 512;

    public static void main(String[] args) {
        locks();
        programs();
        runs();
        refusals();
        Due.end();
    }

    private static void locks() {
        MonitorDesk desk = Due.withLocks(0);
        for (int call = 2; call <= CALLS - 2; call += 2) {
            int handle = 1 + call / 2 % 4;
            Due.is("call " + call, desk.hold(handle, -2), 0);
            Due.is("call " + (call + 1), desk.state(5 + handle), handle);
        }
        Due.is("call 512", desk.state(5), 0);
    }

    private static void programs() {
        MonitorDesk desk = new MonitorDesk();
        int calls = 0;
        for (int round = 0; calls + 25 <= CALLS - 12; round++) {
            for (int step = 1; step <= 24; step++) {
                Due.is("step " + step, desk.step(step <= 8 ? 1 + round % 2 : step <= 16 ? 0 : 15, round), step);
            }
            Due.is("clear()", desk.clear(), 24);
            calls += 25;
        }
        while (calls < CALLS - 2) {
            Due.is("step(15, 1)", desk.step(15, 1) > 0, true);
            calls++;
        }
        Due.is("call 511", desk.run(), 10);
        Due.is("call 512", desk.state(2), 10);
    }

    private static void runs() {
        MonitorDesk desk = new MonitorDesk();
        Due.steps(desk, 15, 3);
        // Due.steps asks for state(0) too.
        for (int call = 3; call <= CALLS - 1; call++) {
            Due.is("call " + call, desk.run(), 1);
        }
        Due.is("call 512", desk.result(0), 3 * 509);
    }

    private static void refusals() {
        MonitorDesk desk = new MonitorDesk();
        for (int call = 1; call <= CALLS; call++) {
            Due.is("call " + call, desk.step(0, call), -1);
        }
    }
}
