import java.util.ArrayList;
import java.util.Arrays;
import java.util.IdentityHashMap;
import java.util.List;
import java.util.Map;

/**
 * The document's desk once more, built to differ: its runs enter Java's own monitors, interrupt the
 * calling thread and start threads, and its codes are what Java throws. Nothing is waited for.
 */
final class RealDesk {
    private final Object[] handles = new Object[5];
    private final Thread[] threads = new Thread[4];
    private final List<int[]> program = new ArrayList<>();
    private final int[] results = new int[24];
    private final Map<Object, Integer> holds = new IdentityHashMap<>();
    private int failure;
    private int total;
    private int done;
    private boolean flag;

    RealDesk() {
        Arrays.fill(results, -9);
        for (int i = 0; i < 4; i++) {
            int rise = i + 1;
            threads[i] = new Thread(() -> total += rise);
        }
    }

    int hold(int handle, int from) {
        if (handle < 0 || handle > 4 || from < -2 || from > 4) {
            return -1;
        }
        handles[handle] = from == -2 ? new Object() : from == -1 ? null : handles[from];
        return 0;
    }

    int step(int operation, int argument) {
        boolean fits = program.size() < 24 && operation >= 0 && operation <= 15;
        if (!fits || operation == 0 && open() == 0 || (operation == 1 || operation == 2) && open() == 8) {
            return -1;
        }
        program.add(new int[] {operation, argument});
        return program.size();
    }

    int clear() {
        int had = program.size();
        program.clear();
        return had;
    }

    int run() {
        if (open() != 0) {
            return -1;
        }
        Arrays.fill(results, -9);
        failure = 0;
        done = 0;
        setRealFlag(flag);
        try {
            body(0);
        } catch (Exception e) {
            failure = code(e);
        }
        flag = Thread.interrupted();
        return done;
    }

    int result(int step) {
        return step < 0 || step > 23 ? -1 : results[step];
    }

    int failure() {
        return failure;
    }

    int state(int what) {
        if (what >= 5 && what <= 9) {
            Object lock = handles[what - 5];
            int least = 0;
            while (handles[least] != lock) {
                least++;
            }
            return lock == null ? -2 : least;
        }
        return switch (what) {
            case 0 -> program.size();
            case 1 -> open();
            case 2 -> total;
            case 3 -> flag ? 1 : 0;
            case 4 -> (int) Arrays.stream(threads).filter(t -> t.getState() == Thread.State.TERMINATED).count();
            default -> -1;
        };
    }

    private int open() {
        int open = 0;
        for (int[] step : program) {
            open += step[0] == 0 ? -1 : step[0] <= 2 ? 1 : 0;
        }
        return open;
    }

    /** Does the steps from this one up to the END that closes the block they stand in; answers where that is. */
    private int body(int from) throws Exception {
        int at = from;
        while (at < program.size() && program.get(at)[0] != 0) {
            switch (program.get(at)[0]) {
                case 1 -> at = enterBlock(at);
                case 2 -> at = tryBlock(at);
                default -> plainStep(at);
            }
            at++;
        }
        return at;
    }

    private int enterBlock(int at) throws Exception {
        Object lock = handles[Math.floorMod(program.get(at)[1], 5)];
        int end;
        boolean entered = false;
        done++;
        try {
            synchronized (lock) {
                entered = true;
                results[at] = holds.merge(lock, 1, Integer::sum);
                try {
                    end = body(at + 1);
                } finally {
                    holds.merge(lock, -1, Integer::sum);
                }
            }
        } catch (NullPointerException e) {
            if (!entered) {
                results[at] = code(e) - 1000;
            }
            throw e;
        }
        done++;
        results[end] = holds.get(lock);
        return end;
    }

    private int tryBlock(int at) {
        done++;
        results[at] = 0;
        try {
            int end = body(at + 1);
            done++;
            results[end] = 0;
            return end;
        } catch (Exception e) {
            results[at] = code(e);
            return endOf(at);
        }
    }

    private int endOf(int opener) {
        int depth = 0;
        for (int at = opener; ; at++) {
            int operation = program.get(at)[0];
            depth += operation == 0 ? -1 : operation <= 2 ? 1 : 0;
            if (depth == 0) {
                return at;
            }
        }
    }

    private void plainStep(int at) throws Exception {
        done++;
        try {
            results[at] = request(program.get(at)[0], program.get(at)[1]);
        } catch (Exception e) {
            results[at] = code(e) - 1000;
            throw e;
        }
    }

    private int request(int operation, int a) throws Exception {
        Object lock = handles[Math.floorMod(a, 5)];
        Thread thread = threads[Math.floorMod(a, 4)];
        Thread self = Thread.currentThread();
        switch (operation) {
            case 3 -> lock.notify();
            case 4 -> lock.notifyAll();
            case 5 -> {
                return Thread.holdsLock(lock) ? 1 : 0;
            }
            case 6 -> {
                return waitFor(handles[a == Integer.MIN_VALUE ? 0 : Math.abs(a) % 5], a < 0 ? -1 : 1);
            }
            case 7 -> self.interrupt();
            case 8 -> {
                return Thread.interrupted() ? 1 : 0;
            }
            case 9 -> {
                return self.isInterrupted() ? 1 : 0;
            }
            case 10 -> Thread.sleep(a < 0 ? -1 : 0);
            case 11 -> throw new Own(100 + Math.floorMod(a, 100));
            case 12 -> startToItsEnd(thread);
            case 13, 14 -> {
                return thread.getState() == Thread.State.NEW ? 0 : 1;
            }
            default -> {
                total += a;
                return total;
            }
        }
        return 0;
    }

    private static int waitFor(Object lock, long time) throws InterruptedException {
        boolean wouldWait = time >= 0 && Thread.holdsLock(lock) && !Thread.currentThread().isInterrupted();
        if (!wouldWait) {
            lock.wait(time);
        }
        return -2;
    }

    private static void startToItsEnd(Thread thread) throws InterruptedException {
        thread.start();
        boolean was = Thread.interrupted();
        thread.join();
        setRealFlag(was);
    }

    private static void setRealFlag(boolean set) {
        Thread.interrupted();
        if (set) {
            Thread.currentThread().interrupt();
        }
    }

    private static int code(Exception e) {
        if (e instanceof Own own) {
            return own.code;
        }
        if (e instanceof IllegalThreadStateException) {
            return 5;
        }
        if (e instanceof InterruptedException) {
            return 4;
        }
        if (e instanceof IllegalArgumentException) {
            return 3;
        }
        return e instanceof IllegalMonitorStateException ? 2 : 1;
    }

    private static final class Own extends Exception {
        private static final long serialVersionUID = 1;
        private final int code;

        Own(int code) {
            this.code = code;
        }
    }
}
