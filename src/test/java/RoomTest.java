import com.sun.management.ThreadMXBean;
import java.lang.management.ManagementFactory;

/** All calls of one run live in one room, of 7.3 million fields and elements: none takes much. */
public final class RoomTest {
    private static final int ROUNDS = 100;
    /** Four bytes for each field or element of the room. */
    private static final long ROOM = 4 * 7_300_000;

    public static void main(String[] args) {
        if (!(ManagementFactory.getThreadMXBean() instanceof ThreadMXBean threads)
                || !threads.isThreadAllocatedMemorySupported()) {
            System.out.println("this machine does not tell what is made");
            return;
        }
        long thread = Thread.currentThread().getId();
        calls(new LosslessPixels());
        long start = threads.getThreadAllocatedBytes(thread);
        LosslessPixels x = new LosslessPixels();
        long made = threads.getThreadAllocatedBytes(thread);
        calls(x);
        long end = threads.getThreadAllocatedBytes(thread);
        System.out.println("an object makes " + (made - start) + " bytes, its calls " + (end - made));
        Check.isTrue("a hundred objects find room", (made - start) * 100 < ROOM);
        Check.isTrue("its calls find room", end - start < ROOM);
        Check.end();
    }

    /** All methods, none of which is refused by an exception. */
    private static void calls(LosslessPixels x) {
        for (int i = 0; i < ROUNDS; i++) {
            x.size(8, 8);
            x.set(i % 8, i / 8 % 8, i * 0x01234567);
            x.write(i % 2 == 0, i % 3 == 0, i % 15 - 1, i % 5);
            x.feed(i, 1);
            x.read();
        }
        x.measure(2);
        x.pixel(0, 0);
        x.byteAt(0);
        x.flip(0);
        x.had(0);
        x.wipe();
    }
}
