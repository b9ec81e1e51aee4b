import java.lang.management.ManagementFactory;

/** An object makes its rows once: its calls make nothing, and 512 of the dearest ones do end. */
public final class RoomTest {
    private RoomTest() {
    }

    public static void main(String[] args) {
        com.sun.management.ThreadMXBean threads =
                (com.sun.management.ThreadMXBean) ManagementFactory.getThreadMXBean();
        threads.setThreadAllocatedMemoryEnabled(true);
        use(new RectilinearRoof());
        long thread = Thread.currentThread().getId();
        long before = threads.getThreadAllocatedBytes(thread);
        RectilinearRoof roof = new RectilinearRoof();
        long made = threads.getThreadAllocatedBytes(thread);
        int sum = use(roof);
        long used = threads.getThreadAllocatedBytes(thread);
        Check.same("an object stays below 600,000 bytes", made - before < 600000 ? 1 : 0, 1);
        Check.same("its calls make nothing worth counting", used - made < 20000 ? 1 : 0, 1);
        Check.same("the calls answered", sum != 0 ? 1 : 0, 1);
        Check.finish("RoomTest");
    }

    private static int use(RectilinearRoof r) {
        int sum = 0;
        for (int i = 0; i < 30; i++) {
            r.rectangle(0, 0, 0, 12, 12);
            for (int x = 1; x < 12; x += 3) {
                r.rectangle(2, x, (x + i) % 12, 1, 1);
            }
            sum += r.volume() + r.edge(0, 6) + r.face(5, 5) + r.branches() + r.symmetries() + r.groups();
            sum += r.path(0, 0, 0, 11, 11) + r.clearance(0, 0, 11, 11) + r.phase(0, 7) + r.height(40, 40);
            r.undo();
        }
        return sum;
    }
}
