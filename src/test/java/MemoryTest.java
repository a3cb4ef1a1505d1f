import java.lang.management.ManagementFactory;

/** All calls of a run live in one room: a call makes no object, so 512 of the dearest ones make none. */
public final class MemoryTest {

    /** What the measuring itself may take. */
    private static final long BYTES_LEFT = 20_000;

    public static void main(String[] args) {
        Checks checks = new Checks();
        var threads = (com.sun.management.ThreadMXBean) ManagementFactory.getThreadMXBean();
        checks.due("memory of 512 digests", bytesOf(threads, () -> digests()) < BYTES_LEFT, true);
        checks.due("memory of 512 changes", bytesOf(threads, () -> changes()) < BYTES_LEFT, true);
        checks.end();
    }

    private static long bytesOf(com.sun.management.ThreadMXBean threads, Checks.Call calls) {
        // The first time loads classes.
        calls.make();
        long id = Thread.currentThread().getId();
        long before = threads.getThreadAllocatedBytes(id);
        calls.make();
        return threads.getThreadAllocatedBytes(id) - before;
    }

    private static void digests() {
        RehearsalRoom room = Some.apart(14);
        for (int call = 14; call < 512; call++) {
            room.digest();
        }
    }

    private static void changes() {
        RehearsalRoom room = Some.apart(13);
        for (int call = 0; call < 60; call++) {
            room.bookBest();
            room.keep(call % 2);
            room.strike(3);
            room.goBack(call % 2);
            room.add(90, 91, 5);
            room.undo();
            room.undo();
            room.undo();
        }
    }
}
