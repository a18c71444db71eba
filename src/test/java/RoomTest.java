import java.lang.management.ManagementFactory;

/** The room that all calls of a run share: what a new object takes, and what its dearest calls add. */
public final class RoomTest {
    /** 7.3 million fields and elements, were all of them as small as bytes. */
    private static final long ROOM_OF_BYTES = 7_300_000L;
    private static final int CALLS = 512;
    private static final com.sun.management.ThreadMXBean THREADS =
            (com.sun.management.ThreadMXBean) ManagementFactory.getThreadMXBean();

    public static void main(String[] args) {
        run(new Bench());
        ValueBench warm = new ValueBench();
        warm.print(0);
        long before = allocated();
        ValueBench bench = new ValueBench();
        long made = allocated() - before;
        bench.print(0);
        Bench.due("a new object takes less than a tenth of the room: " + made, made < ROOM_OF_BYTES / 10, true);
        Bench x = new Bench().with(0, Bench.array("0", 1023)).with(1, Bench.letters(1023)).with(2, "\"\"");
        x.with(3, "\"[1]\"");
        before = allocated();
        run(x);
        long taken = allocated() - before;
        Bench.due("512 dear calls take less than a tenth of the room: " + taken, taken < ROOM_OF_BYTES / 10, true);
        Bench.finish();
    }

    private static long allocated() {
        return THREADS.getThreadAllocatedBytes(Thread.currentThread().getId());
    }

    private static void run(Bench x) {
        for (int k = 0; k < CALLS / 8; k++) {
            call(x, k % 14);
        }
    }

    /** Eight calls, of which those with values that do not fit are refused. */
    private static void call(Bench x, int f) {
        guarded(() -> x.bench.one(4, f, 0));
        guarded(() -> x.bench.one(4, f, 1));
        guarded(() -> x.bench.binary(5, 3, 1, 2));
        guarded(() -> x.bench.binary(6, 0, 0, 0));
        guarded(() -> x.bench.sort(6, 1, 0, 0));
        guarded(() -> x.bench.one(4, 7, 3));
        guarded(() -> x.bench.two(7, 7, 0, 0));
        guarded(() -> x.bench.print(0));
    }

    private static void guarded(Runnable call) {
        try {
            call.run();
        } catch (ArithmeticException | IndexOutOfBoundsException e) {
            // What is refused takes room as well.
        }
    }
}
