import com.sun.management.ThreadMXBean;
import java.lang.management.ManagementFactory;

/** All calls of one run live in one room: an object is small, and its calls make nothing. */
public final class RoomTest {
    private static final int ROUNDS = 100;

    public static void main(String[] args) {
        if (!(ManagementFactory.getThreadMXBean() instanceof ThreadMXBean threads)
                || !threads.isThreadAllocatedMemorySupported()) {
            System.out.println("this machine does not tell what is made");
            return;
        }
        long thread = Thread.currentThread().getId();
        calls(new LosslessPixels());
        long start = threads.getThreadAllocatedBytes(thread);
        LosslessPixels x = new LosslessPixels();
        long made = threads.getThreadAllocatedBytes(thread);
        calls(x);
        long end = threads.getThreadAllocatedBytes(thread);
        Check.isTrue("an object takes " + (made - start) + " bytes, not many", made - start < 50_000);
        Check.isTrue("its calls make " + (end - made) + " bytes, hardly any", end - made < 1_000);
        Check.end();
    }

    /** All methods, none of which is refused by an exception. */
    private static void calls(LosslessPixels x) {
        for (int i = 0; i < ROUNDS; i++) {
            x.size(8, 8);
            x.set(i % 8, i / 8 % 8, i * 0x01234567);
            x.write(i % 2 == 0, i % 3 == 0, i % 15 - 1, i % 5);
            x.feed(i, 1);
            x.read();
        }
        x.measure(2);
        x.pixel(0, 0);
        x.byteAt(0);
        x.flip(0);
        x.had(0);
        x.wipe();
    }
}
