import java.util.Arrays;

/** Promise 2. */
public final class HoldTest {
    public static void main(String[] args) {
        newNullAndShared();
        lastHolderGoes();
        refusals();
        eachHandleFromEach();
        handlesMayChangeBetweenRuns();
        Due.end();
    }

    private static void newNullAndShared() {
        MonitorDesk desk = Due.withLocks(1);
        Due.is("hold(3, 1)", desk.hold(3, 1), 0);
        handles("3 shares with 1", desk, -2, 1, -2, 1, -2);
        Due.is("hold(0, 3)", desk.hold(0, 3), 0);
        handles("0 shares too", desk, 0, 0, -2, 0, -2);
        Due.is("hold(3, -2)", desk.hold(3, -2), 0);
        handles("3 has a new one", desk, 0, 0, -2, 3, -2);
        Due.is("hold(0, 0)", desk.hold(0, 0), 0);
        handles("from itself", desk, 0, 0, -2, 3, -2);
        Due.is("hold(0, -1)", desk.hold(0, -1), 0);
        handles("0 is null", desk, -2, 1, -2, 3, -2);
        Due.is("hold(1, 2)", desk.hold(1, 2), 0);
        handles("null is taken over", desk, -2, -2, -2, 3, -2);
        Due.is("hold(2, 2)", desk.hold(2, 2), 0);
        Due.is("hold(4, 3)", desk.hold(4, 3), 0);
        handles("4 shares with 3", desk, -2, -2, -2, 3, 3);
    }

    private static void lastHolderGoes() {
        MonitorDesk desk = Due.withLocks(0);
        for (int i = 0; i < 20; i++) {
            desk.hold(1, 0);
            Due.is("hold(0, -2)", desk.hold(0, -2), 0);
            handles("round " + i, desk, 0, 1, -2, -2, -2);
        }
    }

    private static void refusals() {
        MonitorDesk desk = Due.withLocks(0, 1, 2, 3, 4);
        int[][] bad = {{-1, -2}, {5, 0}, {0, -3}, {0, 5}, {Due.MIN, 0}, {Due.MAX, -1}, {0, Due.MIN}, {4, Due.MAX},
            {-1, -3}, {5, 5}, {10, -2}, {1, -4}, {2, 6}};
        for (int[] call : bad) {
            Due.is("hold(" + call[0] + ", " + call[1] + ")", desk.hold(call[0], call[1]), -1);
            handles("refused", desk, 0, 1, 2, 3, 4);
        }
    }

    /** "handle 0 .. 4; from -2 .. 4", and the numbers just outside; handles 0 and 2 share a lock, 3 is null. */
    private static void eachHandleFromEach() {
        int[] shared = {0, 1, 0, -2, 4};
        for (int handle = -2; handle <= 6; handle++) {
            for (int from = -4; from <= 6; from++) {
                MonitorDesk desk = Due.withLocks(0, 1, 4);
                desk.hold(2, 0);
                boolean fits = handle >= 0 && handle <= 4 && from >= -2 && from <= 4;
                String call = "hold(" + handle + ", " + from + ")";
                Due.is(call, desk.hold(handle, from), fits ? 0 : -1);
                int[] due = shared.clone();
                if (fits) {
                    due = leastHandles(handle, from);
                }
                handles(call, desk, due);
            }
        }
    }

    private static int[] leastHandles(int handle, int from) {
        String[] locks = {"a", "b", "a", null, "c"};
        locks[handle] = from == -2 ? "new" : from == -1 ? null : locks[from];
        int[] least = new int[5];
        for (int i = 0; i < 5; i++) {
            least[i] = locks[i] == null ? -2 : Arrays.asList(locks).indexOf(locks[i]);
        }
        return least;
    }

    private static void handlesMayChangeBetweenRuns() {
        MonitorDesk desk = Due.withLocks(0);
        Due.steps(desk, 1, 0, 1, 1, 0, 0, 0, 0);
        Due.is("run() with null", desk.run(), 2);
        Due.results("with null", desk, 1, -999);
        desk.hold(1, 0);
        Due.results("hold keeps results", desk, 1, -999);
        Due.is("failure()", desk.failure(), 1);
        Due.is("run() with one lock", desk.run(), 4);
        Due.results("with one lock", desk, 1, 2, 1, 0);
        desk.hold(1, -2);
        Due.is("run() with two locks", desk.run(), 4);
        Due.results("with two locks", desk, 1, 1, 0, 0);
    }

    private static void handles(String what, MonitorDesk desk, int... due) {
        for (int handle = 0; handle < 5; handle++) {
            Due.is(what + ": state(" + (5 + handle) + ")", desk.state(5 + handle), due[handle]);
        }
    }
}
