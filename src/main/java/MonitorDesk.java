import java.util.Arrays;

/** Programs of requests on monitors, on the caller's interruption, and on threads. */
public final class MonitorDesk {
    public static final int DONE = 0;
    public static final int REFUSED = -1;
    public static final int NOT_DONE = -9;

    private static final int HANDLES = 5;
    private static final int THREADS = 4;
    private static final int MOST_STEPS = 24;
    private static final int MOST_OPEN = 8;
    private static final int NO_LOCK = 0;
    private static final int NO_BLOCK = -1;

    private static final int FROM_NEW = -2;
    private static final int FROM_NULL = -1;

    private static final int END = 0;
    private static final int ENTER = 1;
    private static final int TRY = 2;
    private static final int NOTIFY = 3;
    private static final int NOTIFY_ALL = 4;
    private static final int HOLDS = 5;
    private static final int WAIT = 6;
    private static final int INTERRUPT = 7;
    private static final int INTERRUPTED = 8;
    private static final int IS_INTERRUPTED = 9;
    private static final int SLEEP = 10;
    private static final int THROW = 11;
    private static final int START = 12;
    private static final int JOIN = 13;
    private static final int THREAD_STATE = 14;
    private static final int ADD = 15;

    private static final int CODE_NULL = 1;
    private static final int CODE_MONITOR = 2;
    private static final int CODE_ARGUMENT = 3;
    private static final int CODE_INTERRUPTED = 4;
    private static final int CODE_STATE = 5;
    private static final int CODE_OWN = 100;
    private static final int OWN_CODES = 100;

    private static final int NOTHING_AWAITED = -2;
    private static final int THREW = -1000;

    private static final int WHAT_STEPS = 0;
    private static final int WHAT_OPEN = 1;
    private static final int WHAT_TOTAL = 2;
    private static final int WHAT_FLAG = 3;
    private static final int WHAT_ENDED = 4;
    private static final int WHAT_HANDLE = 5;
    private static final int NULL_HANDLE = -2;

    /** Each handle's lock by its number, or NO_LOCK. */
    private final int[] locks = new int[HANDLES];
    private int locksMade = 0;
    private final boolean[] ended = new boolean[THREADS];
    private int total = 0;
    private boolean flag = false;

    private final int[] operations = new int[MOST_STEPS];
    private final int[] arguments = new int[MOST_STEPS];
    /** For each step the opener of the innermost block around it, an END's own block, or NO_BLOCK. */
    private final int[] around = new int[MOST_STEPS];
    /** For each opener its END. */
    private final int[] ends = new int[MOST_STEPS];
    private int stepCount = 0;
    private int openCount = 0;
    private int latestOpen = NO_BLOCK;

    private final int[] results = new int[MOST_STEPS];
    private int latestFailure = 0;
    /** How often the run holds each lock, at the least handle that has the lock. */
    private final int[] held = new int[HANDLES];
    private int raised = 0;
    private int resumeAt = 0;

    public MonitorDesk() {
        Arrays.fill(results, NOT_DONE);
    }

    public int hold(int handle, int from) {
        if (handle < 0 || handle >= HANDLES || from < FROM_NEW || from >= HANDLES) {
            return REFUSED;
        }
        if (from == FROM_NEW) {
            locksMade++;
            locks[handle] = locksMade;
        } else if (from == FROM_NULL) {
            locks[handle] = NO_LOCK;
        } else {
            locks[handle] = locks[from];
        }
        return DONE;
    }

    public int step(int operation, int argument) {
        if (operation < END || operation > ADD || stepCount >= MOST_STEPS) {
            return REFUSED;
        }
        if (operation == END && latestOpen == NO_BLOCK) {
            return REFUSED;
        }
        if (opensBlock(operation) && openCount >= MOST_OPEN) {
            return REFUSED;
        }
        operations[stepCount] = operation;
        arguments[stepCount] = argument;
        around[stepCount] = latestOpen;
        if (opensBlock(operation)) {
            latestOpen = stepCount;
            openCount++;
        } else if (operation == END) {
            ends[latestOpen] = stepCount;
            latestOpen = around[latestOpen];
            openCount--;
        }
        stepCount++;
        return stepCount;
    }

    public int clear() {
        int had = stepCount;
        stepCount = 0;
        openCount = 0;
        latestOpen = NO_BLOCK;
        return had;
    }

    public int run() {
        if (openCount != 0) {
            return REFUSED;
        }
        Arrays.fill(results, NOT_DONE);
        Arrays.fill(held, 0);
        latestFailure = 0;
        resumeAt = 0;
        int done = 0;
        for (int at = 0; at < stepCount; at++) {
            if (at >= resumeAt) {
                doStep(at);
                done++;
            }
        }
        return done;
    }

    public int result(int step) {
        if (step < 0 || step >= MOST_STEPS) {
            return REFUSED;
        }
        return results[step];
    }

    public int failure() {
        return latestFailure;
    }

    public int state(int what) {
        switch (what) {
            case WHAT_STEPS:
                return stepCount;
            case WHAT_OPEN:
                return openCount;
            case WHAT_TOTAL:
                return total;
            case WHAT_FLAG:
                return asNumber(flag);
            case WHAT_ENDED:
                return countEnded();
            default:
                return handleState(what);
        }
    }

    private int handleState(int what) {
        if (what < WHAT_HANDLE || what >= WHAT_HANDLE + HANDLES) {
            return REFUSED;
        }
        int handle = what - WHAT_HANDLE;
        return locks[handle] == NO_LOCK ? NULL_HANDLE : leastHandle(handle);
    }

    private int countEnded() {
        int count = 0;
        for (int thread = 0; thread < THREADS; thread++) {
            count += asNumber(ended[thread]);
        }
        return count;
    }

    private static boolean opensBlock(int operation) {
        return operation == ENTER || operation == TRY;
    }

    private static int asNumber(boolean yes) {
        return yes ? 1 : 0;
    }

    private int leastHandle(int handle) {
        for (int other = 0; other < handle; other++) {
            if (locks[other] == locks[handle]) {
                return other;
            }
        }
        return handle;
    }

    private void doStep(int at) {
        raised = 0;
        int answer = perform(at);
        if (raised == 0) {
            results[at] = answer;
        } else {
            results[at] = raised + THREW;
            leaveBlocks(at);
        }
    }

    /** The step's result; if raised is set behind it, the step has none. */
    private int perform(int at) {
        int argument = arguments[at];
        int handle = Math.floorMod(argument, HANDLES);
        int thread = Math.floorMod(argument, THREADS);
        switch (operations[at]) {
            case END:
                return endBlock(around[at]);
            case ENTER:
                return enter(handle);
            case NOTIFY:
            case NOTIFY_ALL:
                return notifyWaiting(handle);
            case HOLDS:
                return holdsLock(handle);
            case WAIT:
                return awaitNotice(argument);
            case INTERRUPT:
                flag = true;
                return 0;
            case INTERRUPTED:
                return asNumber(takeFlag());
            case IS_INTERRUPTED:
                return asNumber(flag);
            case SLEEP:
                return sleep(argument);
            case THROW:
                return raise(CODE_OWN + Math.floorMod(argument, OWN_CODES));
            case START:
                return start(thread);
            case JOIN:
            case THREAD_STATE:
                return asNumber(ended[thread]);
            case ADD:
                total += argument;
                return total;
            default:
                // TRY: its result is 0 until a code comes to it.
                return 0;
        }
    }

    private int raise(int code) {
        raised = code;
        return 0;
    }

    /** Leaves the blocks within the innermost TRY around the step, or all, and sets where to go on. */
    private void leaveBlocks(int at) {
        int block = around[at];
        // The bound ends no chain early: no more than MOST_OPEN blocks are around a step.
        for (int left = MOST_OPEN; left > 0 && isEnter(block); left--) {
            giveBack(block);
            block = around[block];
        }
        if (block == NO_BLOCK) {
            latestFailure = raised;
            resumeAt = stepCount;
        } else {
            results[block] = raised;
            resumeAt = ends[block] + 1;
        }
    }

    private int endBlock(int block) {
        return isEnter(block) ? giveBack(block) : 0;
    }

    private boolean isEnter(int block) {
        return block != NO_BLOCK && operations[block] == ENTER;
    }

    private int giveBack(int enterStep) {
        int lock = leastHandle(Math.floorMod(arguments[enterStep], HANDLES));
        held[lock]--;
        return held[lock];
    }

    private int enter(int handle) {
        if (locks[handle] == NO_LOCK) {
            return raise(CODE_NULL);
        }
        int lock = leastHandle(handle);
        held[lock]++;
        return held[lock];
    }

    private int notifyWaiting(int handle) {
        if (locks[handle] == NO_LOCK) {
            return raise(CODE_NULL);
        }
        if (held[leastHandle(handle)] == 0) {
            return raise(CODE_MONITOR);
        }
        return 0;
    }

    private int holdsLock(int handle) {
        if (locks[handle] == NO_LOCK) {
            return raise(CODE_NULL);
        }
        return asNumber(held[leastHandle(handle)] > 0);
    }

    private int awaitNotice(int argument) {
        // The least int has no positive of its own; the document gives it handle 0.
        int handle = argument == Integer.MIN_VALUE ? 0 : Math.abs(argument) % HANDLES;
        if (locks[handle] == NO_LOCK) {
            return raise(CODE_NULL);
        }
        if (argument < 0) {
            return raise(CODE_ARGUMENT);
        }
        if (held[leastHandle(handle)] == 0) {
            return raise(CODE_MONITOR);
        }
        return takeFlag() ? raise(CODE_INTERRUPTED) : NOTHING_AWAITED;
    }

    private int sleep(int argument) {
        if (argument < 0) {
            return raise(CODE_ARGUMENT);
        }
        return takeFlag() ? raise(CODE_INTERRUPTED) : 0;
    }

    private boolean takeFlag() {
        boolean was = flag;
        flag = false;
        return was;
    }

    private int start(int thread) {
        if (ended[thread]) {
            return raise(CODE_STATE);
        }
        ended[thread] = true;
        total += thread + 1;
        return 0;
    }
}
