/** All promises at once: long runs of calls, each answer beside that of a desk of Java's own monitors. */
public final class RealMonitorsTest {
    private static final int DESKS = 400;
    private static final int CALLS = 512;
    private static final int[] EDGES = {Due.MIN, Due.MIN + 1, -1000, -9, -5, -4, -3, -2, -1, 16, 24, 25, 100, 1000,
        Due.MAX - 1, Due.MAX};

    /** The same numbers at every run of this test. */
    private static long seed = 20261119;

    private MonitorDesk desk;
    private RealDesk real;
    private String trail;
    private int calls;

    public static void main(String[] args) {
        int made = 0;
        for (int i = 0; i < DESKS; i++) {
            made += new RealMonitorsTest().compare();
        }
        System.out.println(made + " calls compared");
        Due.end();
    }

    private int compare() {
        desk = new MonitorDesk();
        real = new RealDesk();
        trail = "";
        calls = 0;
        while (calls < CALLS) {
            switch (below(10)) {
                case 0 -> hold(number(5), number(8) - 2);
                case 1 -> read();
                case 2 -> answer("clear()", desk.clear(), real.clear());
                case 3 -> step(number(16), number(12) - 3);
                default -> wholeProgram();
            }
        }
        return calls;
    }

    private void wholeProgram() {
        for (int i = 0; i < 5 && below(2) == 0; i++) {
            hold(i, below(4) == 0 ? below(5) : -2 + below(5) / 4);
        }
        if (below(3) > 0) {
            answer("clear()", desk.clear(), real.clear());
        }
        int steps = below(25);
        for (int i = 0; i < steps; i++) {
            step(below(3) > 0 ? below(3) : number(16), number(12) - 3);
        }
        while (real.state(1) > 0 && real.state(0) < 24) {
            step(0, below(5));
        }
        answer("run()", desk.run(), real.run());
        answer("failure()", desk.failure(), real.failure());
        for (int i = 0; i < 24; i++) {
            answer("result", desk.result(i), real.result(i));
        }
        for (int i = 0; i < 10; i++) {
            answer("state", desk.state(i), real.state(i));
        }
    }

    private void hold(int handle, int from) {
        answer("hold(" + handle + ", " + from + ")", desk.hold(handle, from), real.hold(handle, from));
    }

    private void step(int operation, int argument) {
        answer("step(" + operation + ", " + argument + ")",
            desk.step(operation, argument), real.step(operation, argument));
    }

    private void read() {
        int number = number(26) - 1;
        answer("result(" + number + ")", desk.result(number), real.result(number));
        answer("state(" + number + ")", desk.state(number), real.state(number));
    }

    private void answer(String call, int answer, int due) {
        if (calls == CALLS) {
            return;
        }
        calls++;
        trail += call + " ";
        Due.is(trail, answer, due);
    }

    private static int number(int bound) {
        return below(12) == 0 ? EDGES[below(EDGES.length)] : below(bound);
    }

    private static int below(int bound) {
        seed = seed * 6364136223846793005L + 1442695040888963407L;
        return (int) Math.floorMod(seed >>> 33, (long) bound);
    }
}
