/** Promises 6 to 9: feed, wipe, byteAt, flip. */
public final class StreamTest {
    public static void main(String[] args) {
        feed();
        feedToTheBrim();
        wipe();
        byteAt();
        flip();
        Check.end();
    }

    private static void feed() {
        LosslessPixels x = new LosslessPixels();
        Check.same("feed 3", 3, x.feed(0xAABBCCDD010203L, 3));
        Check.same("feed 8", 11, x.feed(0x8899AABBCCDDEEFFL, 8));
        Check.same("feed 1", 12, x.feed(-1, 1));
        int[] due = {3, 2, 1, 0xFF, 0xEE, 0xDD, 0xCC, 0xBB, 0xAA, 0x99, 0x88, 255, -1};
        for (int i = 0; i < due.length; i++) {
            Check.same("byte " + i, due[i], x.byteAt(i));
        }
        for (int n : new int[] {0, -1, 9, Integer.MIN_VALUE, Integer.MAX_VALUE}) {
            Check.same("feed " + n, LosslessPixels.NONE, x.feed(5, n));
            Check.same("nothing fed", LosslessPixels.NONE, x.byteAt(12));
        }
        Check.same("the stream goes on", 13, x.feed(5, 1));
    }

    private static void feedToTheBrim() {
        LosslessPixels x = new LosslessPixels();
        for (int i = 1; i <= 87; i++) {
            Check.same("feed " + i, 8 * i, x.feed(-1L - i, 8));
        }
        Check.same("696 and 5 are too many", LosslessPixels.NONE, x.feed(0, 5));
        Check.same("696 and 8 are too many", LosslessPixels.NONE, x.feed(0, 8));
        Check.same("nothing is kept of them", LosslessPixels.NONE, x.byteAt(696));
        Check.same("696 and 3", 699, x.feed(0x030201, 3));
        Check.same("699 and 2 are too many", LosslessPixels.NONE, x.feed(0, 2));
        Check.same("699 and 1", 700, x.feed(0x77, 1));
        Check.same("700 and 1 are too many", LosslessPixels.NONE, x.feed(0, 1));
        Check.same("the last byte", 0x77, x.byteAt(699));
        Check.same("the last bit", 1, x.flip(5599));
        Check.same("the last byte then", 0xF7, x.byteAt(699));
        Check.outside("no bit behind it", () -> x.flip(5600));
        Check.same("wiped", 700, x.wipe());
        Check.same("fed again", 1, x.feed(1, 1));
    }

    private static void wipe() {
        LosslessPixels x = new LosslessPixels();
        x.set(0, 0, 5);
        x.feed(0x123456, 3);
        Check.same("wipe", 3, x.wipe());
        Check.same("wipe again", 0, x.wipe());
        Check.same("nothing left", LosslessPixels.NONE, x.byteAt(0));
        Check.outside("no bit left", () -> x.flip(0));
        Check.same("the picture stays", 5, x.pixel(0, 0));
        int bits = x.write(false, false, -1, 0);
        Check.same("wipe what was written", (bits + 7) / 8, x.wipe());
        Check.same("fed anew, from the front", 2, x.feed(0x0807, 2));
        Check.same("the first byte", 7, x.byteAt(0));
    }

    private static void byteAt() {
        LosslessPixels x = new LosslessPixels();
        x.feed(0xFF80, 2);
        Check.same("byteAt 0", 128, x.byteAt(0));
        Check.same("byteAt 1", 255, x.byteAt(1));
        for (int i : new int[] {2, -1, 699, 700, 701, Integer.MIN_VALUE, Integer.MAX_VALUE}) {
            Check.same("byteAt " + i, LosslessPixels.NONE, x.byteAt(i));
        }
    }

    private static void flip() {
        LosslessPixels x = new LosslessPixels();
        x.feed(0x8001, 2);
        Check.same("flip: the lowest comes first", 0, x.flip(0));
        Check.same("flip: that is the first byte's", 0, x.byteAt(0));
        Check.same("flip: the highest comes last", 0, x.flip(15));
        Check.same("flip: that is the second byte's", 0, x.byteAt(1));
        Check.same("flip: to 1", 1, x.flip(10));
        Check.same("flip: bit 2 of byte 1", 4, x.byteAt(1));
        Check.same("flip: and back", 0, x.flip(10));
        Check.same("flip: to 1 in the first byte", 1, x.flip(7));
        Check.same("flip: bit 7 of byte 0", 128, x.byteAt(0));
        for (int i : new int[] {16, -1, 5599, 5600, Integer.MIN_VALUE, Integer.MAX_VALUE}) {
            Check.outside("flip " + i, () -> x.flip(i));
        }
        Check.same("nothing else changed", 2, x.wipe());
    }
}
