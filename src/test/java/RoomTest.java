import com.sun.management.ThreadMXBean;
import java.lang.management.ManagementFactory;

/** All calls of a run live in one room: the dearest calls, 512 of each, make next to nothing. */
public final class RoomTest {
    // One row made anew for each write of a drive would come to more than twice this in every use that writes.
    private static final long ROOM = 50_000;

    private interface Use {
        int call(GuardVolume volume, int i);
    }

    public static void main(String[] args) {
        measure("write", (volume, i) -> volume.write(i % 64, i % 8, i));
        measure("read", (volume, i) -> volume.read(i % 64, i % 8));
        measure("scrub", (volume, i) -> spoiled(volume, i).scrub(64));
        measure("rebuild", (volume, i) -> spoiled(volume, i).rebuild(i % 2));
        measure("start", (volume, i) -> cut(volume, i).start());
        Check.end();
    }

    private static void measure(String what, Use use) {
        // What the machine itself makes at a first call is not the program's.
        bytesOf(use);
        long bytes = bytesOf(use);
        Check.holds(what + " makes less than " + ROOM + " bytes in 512 uses: " + bytes, bytes < ROOM);
    }

    private static long bytesOf(Use use) {
        ThreadMXBean meter = (ThreadMXBean) ManagementFactory.getThreadMXBean();
        GuardVolume volume = new GuardVolume();
        long before = meter.getCurrentThreadAllocatedBytes();
        for (int i = 0; i < 512; i++) {
            use.call(volume, i);
        }
        return meter.getCurrentThreadAllocatedBytes() - before;
    }

    private static GuardVolume spoiled(GuardVolume volume, int i) {
        volume.replace(i % 2);
        return volume;
    }

    private static GuardVolume cut(GuardVolume volume, int i) {
        volume.cutAfter(i % 4);
        volume.write(i % 64, i % 8, i);
        return volume;
    }
}
