import java.util.ArrayList;
import java.util.Arrays;
import java.util.List;

/**
 * "Every call tests its numbers first; numbers out of range and all that is said to be refused answer
 * REFUSED and change nothing." Each such call is made on desks in seven states; all that can be read is
 * the same behind it, and a twin that was never refused anything answers the same from there on.
 */
public final class RefusedTest {
    private static final int HOLD = 0;
    private static final int STEP = 1;
    private static final int RUN = 2;
    private static final int RESULT = 3;
    private static final int STATE = 4;

    private static final int[][] OUT_OF_RANGE = {
        {HOLD, -1, -2}, {HOLD, 5, -2}, {HOLD, -1, 0}, {HOLD, 5, 4}, {HOLD, Due.MIN, -1}, {HOLD, Due.MAX, -1},
        {HOLD, 0, -3}, {HOLD, 4, 5}, {HOLD, 4, -3}, {HOLD, 0, 5}, {HOLD, 1, Due.MIN}, {HOLD, 1, Due.MAX},
        {HOLD, -1, -3}, {HOLD, 5, 5}, {HOLD, -1, 5}, {HOLD, 5, -3}, {HOLD, Due.MIN, Due.MAX},
        {STEP, -1, 0}, {STEP, 16, 0}, {STEP, -2, -1}, {STEP, 17, 1}, {STEP, Due.MIN, 0}, {STEP, Due.MAX, Due.MAX},
        {RESULT, -1, 0}, {RESULT, 24, 0}, {RESULT, Due.MIN, 0}, {RESULT, Due.MAX, 0},
        {STATE, -1, 0}, {STATE, 10, 0}, {STATE, Due.MIN, 0}, {STATE, Due.MAX, 0},
    };
    private static final int KINDS = 7;

    public static void main(String[] args) {
        int made = 0;
        for (int kind = 0; kind < KINDS; kind++) {
            for (int[] call : refusedOn(kind)) {
                refuse(kind, call);
                made++;
            }
        }
        // 31 out of range on each kind; of the others 1, 1, 1, 1, 3, 16 and 17.
        Due.is("the calls that are refused", made, 31 * KINDS + 40);
        Due.end();
    }

    /** New; run and left whole; cleared; with two blocks open; with eight; with 24 steps, whole and not. */
    private static MonitorDesk desk(int kind) {
        MonitorDesk desk = new MonitorDesk();
        if (kind == 0) {
            return desk;
        }
        desk.hold(1, -2);
        desk.hold(3, 1);
        desk.hold(4, -2);
        Due.steps(desk, 12, 2, 15, 20, 7, 0, 2, 0, 1, 1, 11, 7, 0, 0, 0, 0, 1, 4, 1, 0, 0, 0, 0, 0);
        desk.run();
        if (kind >= 2) {
            desk.clear();
        }
        if (kind == 3) {
            Due.steps(desk, 2, 0, 1, 3);
        }
        if (kind == 4) {
            Due.steps(desk, Due.joined(Due.times(4, 2, 0), Due.times(4, 1, 1)));
        }
        if (kind >= 5) {
            Due.steps(desk, Due.joined(Due.times(21, 15, 1), Due.program(2, 0, 11, 9)));
            Due.steps(desk, kind == 5 ? 0 : 15, 0);
        }
        return desk;
    }

    private static List<int[]> refusedOn(int kind) {
        List<int[]> calls = new ArrayList<>(Arrays.asList(OUT_OF_RANGE));
        MonitorDesk desk = desk(kind);
        int steps = desk.state(0);
        int open = desk.state(1);
        for (int operation = 0; operation <= 15; operation++) {
            boolean opens = operation == 1 || operation == 2;
            if (steps == 24 || operation == 0 && open == 0 || opens && open == 8) {
                calls.add(new int[] {STEP, operation, 1});
            }
        }
        if (open > 0) {
            calls.add(new int[] {RUN, 0, 0});
        }
        return calls;
    }

    private static void refuse(int kind, int[] call) {
        String what = "desk " + kind + ", call " + Arrays.toString(call);
        MonitorDesk desk = desk(kind);
        int[] before = Due.reads(desk);
        Due.is(what, answer(desk, call), -1);
        Due.is(what + " once more", answer(desk, call), -1);
        Due.same(what, before, Due.reads(desk), 0, -1);
        Due.is(what + ": what comes behind", goOn(desk), goOn(desk(kind)));
    }

    private static int answer(MonitorDesk desk, int[] call) {
        switch (call[0]) {
            case HOLD:
                return desk.hold(call[1], call[2]);
            case STEP:
                return desk.step(call[1], call[2]);
            case RUN:
                return desk.run();
            case RESULT:
                return desk.result(call[1]);
            default:
                return desk.state(call[1]);
        }
    }

    /** Closes what is open where steps fit, runs, and then does a whole new program. */
    private static String goOn(MonitorDesk desk) {
        StringBuilder answers = new StringBuilder();
        for (int i = 0; i < 8 && desk.state(1) > 0 && desk.state(0) < 24; i++) {
            answers.append(desk.step(0, 0)).append(' ');
        }
        answers.append(desk.run()).append(Arrays.toString(Due.reads(desk)));
        answers.append(desk.clear()).append(' ').append(desk.hold(0, 3)).append(' ').append(desk.hold(2, -2));
        for (int handle = 0; handle < 5; handle++) {
            answers.append(desk.step(1, handle)).append(' ');
        }
        answers.append(desk.step(14, 2)).append(desk.step(9, 0)).append(desk.step(15, 0));
        for (int i = 0; i < 8 && desk.state(1) > 0; i++) {
            answers.append(desk.step(0, 0)).append(' ');
        }
        answers.append(desk.run()).append(Arrays.toString(Due.reads(desk)));
        return answers.toString();
    }
}
