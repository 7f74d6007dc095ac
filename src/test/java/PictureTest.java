/** Promises 1 to 5: a new object, size, set, pixel, measure. */
public final class PictureTest {
    public static void main(String[] args) {
        newObject();
        size();
        set();
        pixel();
        measure();
        Check.end();
    }

    private static void newObject() {
        LosslessPixels x = new LosslessPixels();
        Check.same("new: the picture", "1x1 0", Say.pictureOf(x));
        Check.same("new: one colour", 1, x.measure(2));
        Check.same("new: no byte", LosslessPixels.NONE, x.byteAt(0));
        Check.same("new: no bytes to wipe", 0, x.wipe());
        Check.same("new: nothing had", LosslessPixels.NONE, x.had(0));
        Check.outside("new: no bit to flip", () -> x.flip(0));
        Check.bad("new: nothing to read", x::read);
        Check.outside("new: no second pixel", () -> x.pixel(1, 0));
        LosslessPixels other = new LosslessPixels();
        x.set(0, 0, 7);
        x.feed(1, 1);
        Check.same("new: objects share no pixels", 0, other.pixel(0, 0));
        Check.same("new: objects share no stream", 0, other.wipe());
    }

    private static void size() {
        LosslessPixels x = new LosslessPixels();
        for (int w = 1; w <= 8; w++) {
            for (int h = 1; h <= 8; h++) {
                x.set(0, 0, -1);
                Check.same("size " + w + " " + h, w * h, x.size(w, h));
                Check.same("its width", w, x.measure(0));
                Check.same("its height", h, x.measure(1));
                Check.same("its pixels", w + "x" + h + " 0".repeat(w * h), Say.pictureOf(x));
                x.set(w - 1, h - 1, 9);
            }
        }
        x.size(3, 2);
        x.set(2, 1, 5);
        int[][] wrong = {{0, 1}, {1, 0}, {9, 1}, {1, 9}, {-1, 1}, {1, -1}, {0, 0},
            {Integer.MIN_VALUE, 3}, {3, Integer.MAX_VALUE}};
        for (int[] w : wrong) {
            Check.bad("size " + w[0] + " " + w[1], () -> x.size(w[0], w[1]));
            Check.same("the picture stays", "3x2 0 0 0 0 0 5", Say.pictureOf(x));
        }
        Check.same("the same size again", 6, x.size(3, 2));
        Check.same("what they were is gone", 0, x.pixel(2, 1));
    }

    private static void set() {
        LosslessPixels x = new LosslessPixels();
        x.size(3, 2);
        Check.same("set: what it was", 0, x.set(2, 1, 0x80FF7F01));
        Check.same("set: what it was then", 0x80FF7F01, x.set(2, 1, -1));
        Check.same("set: to the same", -1, x.set(2, 1, -1));
        Check.same("set: the others stay", "3x2 0 0 0 0 0 ffffffff", Say.pictureOf(x));
        x.set(1, 0, 0x12345678);
        Check.same("set: row by row", "3x2 0 12345678 0 0 0 ffffffff", Say.pictureOf(x));
        int[][] wrong = {{3, 0}, {0, 2}, {-1, 0}, {0, -1}, {-1, 1}, {3, -1}, {7, 7},
            {Integer.MAX_VALUE, 0}, {0, Integer.MIN_VALUE}, {1, 1 << 30}};
        for (int[] w : wrong) {
            Check.outside("set " + w[0] + " " + w[1], () -> x.set(w[0], w[1], 1));
            Check.same("nothing set", "3x2 0 12345678 0 0 0 ffffffff", Say.pictureOf(x));
        }
    }

    private static void pixel() {
        LosslessPixels x = new LosslessPixels();
        x.size(8, 8);
        for (int i = 0; i < 64; i++) {
            x.set(i % 8, i / 8, i * 0x04030201);
        }
        for (int i = 0; i < 64; i++) {
            Check.same("pixel " + i, i * 0x04030201, x.pixel(i % 8, i / 8));
        }
        int[][] wrong = {{8, 0}, {0, 8}, {-1, 0}, {0, -1}, {8, -1}, {-8, 1},
            {Integer.MAX_VALUE, 0}, {Integer.MIN_VALUE, 0}, {0, Integer.MAX_VALUE}};
        for (int[] w : wrong) {
            Check.outside("pixel " + w[0] + " " + w[1], () -> x.pixel(w[0], w[1]));
        }
        x.size(2, 1);
        Check.outside("pixel that was there before", () -> x.pixel(2, 0));
        Check.outside("row that was there before", () -> x.pixel(0, 1));
    }

    private static void measure() {
        LosslessPixels x = new LosslessPixels();
        x.size(8, 5);
        Check.same("measure 0", 8, x.measure(0));
        Check.same("measure 1", 5, x.measure(1));
        Check.same("one colour", 1, x.measure(2));
        for (int shift = 0; shift < 32; shift += 8) {
            x.set(shift / 8, 3, 1 << shift);
        }
        Check.same("all four parts told apart", 5, x.measure(2));
        x.set(7, 4, 1);
        Check.same("a colour twice", 5, x.measure(2));
        for (int i = 0; i < 40; i++) {
            x.set(i % 8, i / 8, -i);
        }
        Check.same("all of them different", 40, x.measure(2));
        Check.same("measure changes no pixel", -39, x.pixel(7, 4));
        for (int what : new int[] {-1, 3, 4, Integer.MIN_VALUE, Integer.MAX_VALUE}) {
            Check.same("measure " + what, LosslessPixels.NONE, x.measure(what));
        }
    }
}
