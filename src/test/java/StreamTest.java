/** Promises 6 to 9: feed, wipe, byteAt, flip. */
public final class StreamTest {
    private static final int LEAST = Integer.MIN_VALUE;
    private static final int MOST = Integer.MAX_VALUE;

    public static void main(String[] args) {
        feed();
        feedThatIsRefused();
        feedToTheBrim();
        feedBehindWhatWasWritten();
        wipe();
        byteAt();
        byteThatIsNotThere();
        flip();
        flipEachBit();
        flipThatIsRefused();
        Check.end();
    }

    /** "Puts n bytes behind the stream, the lowest one of w first: how many bytes it has then." */
    private static void feed() {
        int[] due = {0xFF, 0xEE, 0xDD, 0x4C, 0xBB, 0xAA, 0x99, 0x88};
        for (int n = 1; n <= 8; n++) {
            LosslessPixels x = new LosslessPixels();
            Check.same("feed " + n, n, x.feed(0x8899AABB4CDDEEFFL, n));
            for (int i = 0; i < 9; i++) {
                Check.same("byte " + i, i < n ? due[i] : LosslessPixels.NONE, x.byteAt(i));
            }
            Check.same("one more", n + 1, x.feed(0x0102, 1));
            Check.same("stands behind them", 2, x.byteAt(n));
        }
        LosslessPixels x = new LosslessPixels();
        x.feed(-1, 8);
        x.feed(0, 8);
        Check.same("ones, then zeros", "1".repeat(64) + "0".repeat(64), Say.bitsOf(x));
        x.wipe();
        x.feed(0, 3);
        Check.same("nothing left of what was wiped", "0".repeat(24), Say.bitsOf(x));
        LosslessPixels y = Whole.used();
        String picture = Say.pictureOf(y) + Say.hadOf(y);
        y.feed(5, 1);
        Check.same("picture and had stay", picture, Say.pictureOf(y) + Say.hadOf(y));
    }

    /** "NONE, changing nothing, when n is not 1 .. 8". */
    private static void feedThatIsRefused() {
        for (int n : new int[] {0, -1, 9, 10, 16, 256, -8, LEAST, MOST}) {
            LosslessPixels x = Whole.used();
            String before = Whole.of(x);
            Whole.stays("feed " + n, x, LosslessPixels.NONE, x.feed(5, n), before);
            LosslessPixels y = new LosslessPixels();
            Check.same("feed " + n + " to a new one", LosslessPixels.NONE, y.feed(5, n));
            Check.same("has no byte", 0, y.wipe());
        }
    }

    private static LosslessPixels filled(int bytes) {
        LosslessPixels x = new LosslessPixels();
        for (int i = 0; i < bytes / 8; i++) {
            x.feed(0x0807060504030201L, 8);
        }
        if (bytes % 8 > 0) {
            x.feed(0x0807060504030201L, bytes % 8);
        }
        return x;
    }

    /** "Or it would have more than 700." */
    private static void feedToTheBrim() {
        for (int n = 1; n <= 8; n++) {
            LosslessPixels x = filled(700 - n);
            Check.same("up to 700 by " + n, 700, x.feed(-1, n));
            Check.same("the last byte", 255, x.byteAt(699));
            Check.same("none behind it", LosslessPixels.NONE, x.byteAt(700));
            Check.same("the last bit", 0, x.flip(5599));
            Check.outside("no bit behind it", () -> x.flip(5600));
            for (int more = 1; more <= 8; more++) {
                Check.same("700 and " + more, LosslessPixels.NONE, x.feed(0, more));
            }
            Check.same("the last byte stays", 127, x.byteAt(699));
            Check.same("the first byte stays", 1, x.byteAt(0));
            Check.same("700 bytes", 700, x.wipe());
            Check.same("then fed again", n, x.feed(0x0807060504030201L, n));
            LosslessPixels y = filled(701 - n);
            Check.same("701 by " + n, LosslessPixels.NONE, y.feed(-1, n));
            Check.same("nothing of it is kept", LosslessPixels.NONE, y.byteAt(701 - n));
            Check.same("the byte before it stays", (700 - n) % 8 + 1, y.byteAt(700 - n));
            Check.same("as many as before", 701 - n, y.wipe());
        }
    }

    private static void feedBehindWhatWasWritten() {
        LosslessPixels x = new LosslessPixels();
        int bits = x.write(false, false, -1, 0);
        Check.same("bits that fill no last byte", 71, bits);
        String written = Say.bitsOf(x);
        Check.same("behind the last byte", 10, x.feed(0xFF, 1));
        Check.same("the bits", written + "11111111", Say.bitsOf(x));
    }

    /** "Takes all bytes out of the stream: how many there were." */
    private static void wipe() {
        LosslessPixels x = Whole.used();
        int bytes = Say.bitsOf(x).length() / 8;
        String picture = Say.pictureOf(x);
        String had = Say.hadOf(x);
        Check.same("wipe", bytes, x.wipe());
        Check.same("nothing left", "", Say.bitsOf(x));
        Check.same("wipe again", 0, x.wipe());
        Check.outside("no bit left", () -> x.flip(0));
        Check.bad("nothing to read", x::read);
        Check.same("the picture stays", picture, Say.pictureOf(x));
        Check.same("what was had stays", had, Say.hadOf(x));
        int bits = x.write(false, false, -1, 0);
        Check.same("wipe what was written", (bits + 7) / 8, x.wipe());
        Check.same("fed anew, from the front", 2, x.feed(0x0807, 2));
        Check.same("the first byte", 7, x.byteAt(0));
        Check.same("a full one", 700, filled(700).wipe());
        Check.same("one of one byte", 1, filled(1).wipe());
    }

    /** "Byte i of the stream": 0 .. 255, never below 0. */
    private static void byteAt() {
        LosslessPixels x = new LosslessPixels();
        for (int i = 0; i < 256; i += 2) {
            x.feed(i | i + 1 << 8, 2);
        }
        for (int i = 0; i < 256; i++) {
            Check.same("byte " + i, i, x.byteAt(i));
        }
    }

    private static void byteThatIsNotThere() {
        int[] wrong = {-1, -2, LEAST, MOST, 700, 701, 5600};
        for (int bytes : new int[] {0, 1, 2, 699, 700}) {
            LosslessPixels x = filled(bytes);
            Check.same("behind " + bytes, LosslessPixels.NONE, x.byteAt(bytes));
            for (int i : wrong) {
                Check.same("byteAt " + i + " of " + bytes, LosslessPixels.NONE, x.byteAt(i));
            }
            if (bytes > 0) {
                Check.same("the last of " + bytes, (bytes - 1) % 8 + 1, x.byteAt(bytes - 1));
            }
            Check.same("all stay", bytes, x.wipe());
        }
    }

    /** "Changes bit i of the stream: what it is then, 0 or 1." */
    private static void flip() {
        LosslessPixels x = new LosslessPixels();
        x.feed(0x8001, 2);
        Check.same("flip: the lowest comes first", 0, x.flip(0));
        Check.same("flip: that is the first byte's", 0, x.byteAt(0));
        Check.same("flip: the highest comes last", 0, x.flip(15));
        Check.same("flip: that is the second byte's", 0, x.byteAt(1));
        Check.same("flip: to 1", 1, x.flip(10));
        Check.same("flip: bit 2 of byte 1", 4, x.byteAt(1));
        Check.same("flip: and back", 0, x.flip(10));
        Check.same("flip: to 1 in the first byte", 1, x.flip(7));
        Check.same("flip: bit 7 of byte 0", 128, x.byteAt(0));
        LosslessPixels y = new LosslessPixels();
        Say say = Reading.start(1, 1).plainImage(0x00000100);
        say.readBy(y);
        Check.same("the lowest bit of green", 0, y.flip(8 + 6 + 1 + 1 + 3));
        y.read();
        Check.same("is read", 0, y.pixel(0, 0));
    }

    private static void flipEachBit() {
        LosslessPixels x = Whole.used();
        String bits = Say.bitsOf(x);
        for (int i = 0; i < bits.length(); i += 5) {
            LosslessPixels y = Whole.used();
            char other = bits.charAt(i) == '0' ? '1' : '0';
            Check.same("flip " + i, other - '0', y.flip(i));
            Check.same("that one alone", bits.substring(0, i) + other + bits.substring(i + 1),
                    Say.bitsOf(y));
            Check.same("and back", bits.charAt(i) - '0', y.flip(i));
            Check.same("all as it was", Whole.of(x), Whole.of(y));
            x = Whole.used();
        }
    }

    /** "IndexOutOfBoundsException when there is none." */
    private static void flipThatIsRefused() {
        LosslessPixels used = Whole.used();
        int bits = Say.bitsOf(used).length();
        for (int i : new int[] {bits, bits + 1, bits + 8, -1, -8, 5599, 5600, LEAST, MOST}) {
            LosslessPixels x = Whole.used();
            Whole.refused(IndexOutOfBoundsException.class, "flip " + i, x, () -> x.flip(i));
        }
        Check.same("the last one", used.byteAt(bits / 8 - 1) < 128 ? 1 : 0, used.flip(bits - 1));
        LosslessPixels empty = new LosslessPixels();
        Check.outside("flip 0 of none", () -> empty.flip(0));
        LosslessPixels one = filled(1);
        Check.same("the last of 8", 1, one.flip(7));
        Check.outside("behind 8", () -> one.flip(8));
        LosslessPixels written = new LosslessPixels();
        written.write(false, false, -1, 0);
        Check.same("a bit behind the 71 that were written", 1, written.flip(71));
        Check.outside("but not behind the last byte", () -> written.flip(72));
    }
}
