import com.sun.management.ThreadMXBean;
import java.lang.management.ManagementFactory;

/** All calls of a run live in one room, so the calls themselves make no objects. */
public final class RoomTest {
    /** Four calls each, behind those that fill the object: an object is used for 512 calls at most. */
    private static final int ROUNDS = 110;
    private static final long SLACK = 5_000;
    private static final long OBJECT_LIMIT = 20_000;

    public static void main(String[] args) {
        ThreadMXBean room = (ThreadMXBean) ManagementFactory.getThreadMXBean();
        dearestCalls(atAllLimits());
        long before = room.getCurrentThreadAllocatedBytes();
        ArchiveMirrors x = atAllLimits();
        long made = room.getCurrentThreadAllocatedBytes() - before;
        if (made > OBJECT_LIMIT) {
            Check.fail("an object takes " + made + " bytes");
        }
        before = room.getCurrentThreadAllocatedBytes();
        dearestCalls(x);
        made = room.getCurrentThreadAllocatedBytes() - before;
        if (made > SLACK) {
            Check.fail(ROUNDS + " rounds of the dearest calls take " + made + " bytes");
        }
        Check.end();
    }

    private static void dearestCalls(ArchiveMirrors x) {
        for (int i = 0; i < ROUNDS; i++) {
            x.digest();
            x.until(0, 4095);
            x.ifInstalled(0, 4095, 4);
            x.pass(200);
        }
    }

    private static ArchiveMirrors atAllLimits() {
        ArchiveMirrors x = new ArchiveMirrors();
        x.begin(5);
        for (int i = 0; i < 12; i++) {
            x.addPackage(i % 5, 99, (1 << i) - 1);
        }
        for (int i = 0; i < 20; i++) {
            x.publish(i % 12);
            x.release();
        }
        for (int i = 0; i < 6; i++) {
            x.addMirror(31, 1, 0, i - 1, 100, i % 2 == 0);
        }
        for (int i = 0; i < 4; i++) {
            x.addClient(63);
        }
        return x;
    }
}
