import java.util.Arrays;

/** Counts and tells the answers that are not the ones that are due. */
final class Due {
    static final int MIN = Integer.MIN_VALUE;
    static final int MAX = Integer.MAX_VALUE;

    private static int wrong = 0;

    private Due() {
    }

    static void is(String call, Object answer, Object due) {
        if (!due.equals(answer)) {
            wrong++;
            System.out.println(call + " answered " + answer + ", due is " + due);
        }
    }

    /** The program's steps in pairs, operation and argument, each of which is to be taken. */
    static void steps(MonitorDesk desk, int... pairs) {
        for (int i = 0; i < pairs.length; i += 2) {
            int before = desk.state(0);
            is("step(" + pairs[i] + ", " + pairs[i + 1] + ")", desk.step(pairs[i], pairs[i + 1]), before + 1);
        }
    }

    /** The results from step 0 on; those behind the last one named are to be NOT_DONE. */
    static void results(String what, MonitorDesk desk, int... due) {
        for (int i = 0; i < 24; i++) {
            is(what + ": result(" + i + ")", desk.result(i), i < due.length ? due[i] : -9);
        }
    }

    /** A new desk whose program is run once: the count, the failure and the results that are due. */
    static MonitorDesk runs(String what, MonitorDesk desk, int[] pairs, int done, int failure, int... due) {
        steps(desk, pairs);
        is(what + ": run()", desk.run(), done);
        is(what + ": failure()", desk.failure(), failure);
        results(what, desk, due);
        return desk;
    }

    /** A desk with its own lock in each handle that is named, the others null. */
    static MonitorDesk withLocks(int... handles) {
        MonitorDesk desk = new MonitorDesk();
        for (int handle : handles) {
            is("hold(" + handle + ", -2)", desk.hold(handle, -2), 0);
        }
        return desk;
    }

    static int[] program(int... pairs) {
        return pairs;
    }

    /** Programs joined, one behind the other. */
    static int[] joined(int[]... programs) {
        int[] all = {};
        for (int[] program : programs) {
            int[] longer = Arrays.copyOf(all, all.length + program.length);
            System.arraycopy(program, 0, longer, all.length, program.length);
            all = longer;
        }
        return all;
    }

    /** The same step a number of times. */
    static int[] times(int count, int operation, int argument) {
        int[] program = new int[2 * count];
        for (int i = 0; i < program.length; i += 2) {
            program[i] = operation;
            program[i + 1] = argument;
        }
        return program;
    }

    /** All that can be read of a desk, in 35 calls: state 0 .. 9, the failure, result 0 .. 23. */
    static int[] reads(MonitorDesk desk) {
        int[] all = new int[35];
        for (int what = 0; what < 10; what++) {
            all[what] = desk.state(what);
        }
        all[10] = desk.failure();
        for (int step = 0; step < 24; step++) {
            all[11 + step] = desk.result(step);
        }
        return all;
    }

    /** What was read once is read again, but for the places from .. to (and none, if to is below from). */
    static void same(String what, int[] before, int[] after, int from, int to) {
        for (int i = 0; i < before.length; i++) {
            if (i < from || i > to) {
                is(what + ": reading " + i, after[i], before[i]);
            }
        }
    }

    static void end() {
        System.out.println(wrong == 0 ? "all answers are as due" : wrong + " answers are not as due");
        if (wrong != 0) {
            System.exit(1);
        }
    }
}
