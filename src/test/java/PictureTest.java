/** Promises 1 to 5: a new object, size, set, pixel, measure. */
public final class PictureTest {
    private static final int LEAST = Integer.MIN_VALUE;
    private static final int MOST = Integer.MAX_VALUE;

    public static void main(String[] args) {
        newObject();
        newObjectsShareNothing();
        size();
        sizeThatIsRefused();
        set();
        setAndPixelOutside();
        pixel();
        outsideAfterRead();
        measure();
        measureOfColours();
        Check.end();
    }

    /** "A picture of one pixel 0, an empty stream." */
    private static void newObject() {
        LosslessPixels x = new LosslessPixels();
        Check.same("new: the picture", "1x1 0", Say.pictureOf(x));
        Check.same("new: one colour", 1, x.measure(2));
        Check.same("new: no byte", LosslessPixels.NONE, x.byteAt(0));
        Check.same("new: nothing had", "-1 -1 -1 -1 -1 -1 -1 ", Say.hadOf(x));
        Check.outside("new: no bit to flip", () -> x.flip(0));
        Check.bad("new: nothing to read", x::read);
        Check.outside("new: no second pixel", () -> x.pixel(1, 0));
        Check.outside("new: no second row", () -> x.pixel(0, 1));
        Check.same("new: no bytes to wipe", 0, x.wipe());
        Check.same("new: the first byte", 1, x.feed(7, 1));
    }

    private static void newObjectsShareNothing() {
        LosslessPixels x = Whole.used();
        LosslessPixels y = new LosslessPixels();
        String before = Whole.of(x);
        y.size(8, 8);
        y.set(0, 0, 7);
        y.write(false, false, 3, 1);
        y.feed(1, 1);
        y.read();
        Check.same("another object changes nothing", before, Whole.of(x));
        Check.same("a new one is new", "1x1 0 had -1 -1 -1 -1 -1 -1 -1 stream ",
                Whole.of(new LosslessPixels()));
    }

    /** "This width and height, all pixels 0: how many there are. (What they were is gone.)" */
    private static void size() {
        for (int w = 1; w <= 8; w++) {
            for (int h = 1; h <= 8; h++) {
                LosslessPixels x = Whole.used();
                String stream = Say.bitsOf(x);
                String had = Say.hadOf(x);
                Check.same("size " + w + " " + h, w * h, x.size(w, h));
                Check.same("its width", w, x.measure(0));
                Check.same("its height", h, x.measure(1));
                Check.same("its pixels", w + "x" + h + " 0".repeat(w * h), Say.pictureOf(x));
                Check.same("the stream stays", stream, Say.bitsOf(x));
                Check.same("what was had stays", had, Say.hadOf(x));
            }
        }
        LosslessPixels x = new LosslessPixels();
        x.size(8, 8);
        for (int i = 0; i < 64; i++) {
            x.set(i % 8, i / 8, ~i);
        }
        x.size(2, 2);
        Check.same("less", "2x2 0 0 0 0", Say.pictureOf(x));
        x.size(8, 8);
        Check.same("and more again", "8x8" + " 0".repeat(64), Say.pictureOf(x));
        x.set(7, 7, 5);
        Check.same("the same size again", 64, x.size(8, 8));
        Check.same("what they were is gone", 0, x.pixel(7, 7));
    }

    /** "IllegalArgumentException when one is not 1 .. 8." */
    private static void sizeThatIsRefused() {
        LosslessPixels x = Whole.used();
        int[][] wrong = {{0, 1}, {1, 0}, {9, 1}, {1, 9}, {-1, 1}, {1, -1}, {0, 0}, {9, 9}, {8, 9},
            {9, 8}, {8, 0}, {LEAST, 3}, {3, LEAST}, {MOST, 3}, {3, MOST}, {-8, -8}, {257, 1},
            {1, 1 << 16 | 1}};
        for (int[] w : wrong) {
            LosslessPixels y = Whole.used();
            Whole.refused(IllegalArgumentException.class, "size " + w[0] + " " + w[1], y,
                    () -> y.size(w[0], w[1]));
        }
        Check.same("1 by 8", 8, x.size(1, 8));
        Check.same("8 by 1", 8, x.size(8, 1));
    }

    /** "Sets a pixel: what it was." */
    private static void set() {
        LosslessPixels x = new LosslessPixels();
        x.size(3, 2);
        Check.same("set: what it was", 0, x.set(2, 1, 0x80FF7F01));
        Check.same("set: what it was then", 0x80FF7F01, x.set(2, 1, -1));
        Check.same("set: to the same", -1, x.set(2, 1, -1));
        Check.same("set: the others stay", "3x2 0 0 0 0 0 ffffffff", Say.pictureOf(x));
        Check.same("set: another", 0, x.set(1, 0, 0x12345678));
        Check.same("set: row by row", "3x2 0 12345678 0 0 0 ffffffff", Say.pictureOf(x));
        Check.same("set: the first", 0, x.set(0, 0, LEAST));
        Check.same("set: back to 0", LEAST, x.set(0, 0, 0));
        Check.same("set: 0", 0, x.pixel(0, 0));
    }

    /** "IndexOutOfBoundsException when there is none", also where a larger picture would have one. */
    private static void setAndPixelOutside() {
        int[][] sides = {{1, 1}, {4, 3}, {3, 4}, {8, 1}, {1, 8}, {8, 8}};
        for (int[] side : sides) {
            int w = side[0];
            int h = side[1];
            int[][] wrong = {{w, 0}, {0, h}, {-1, 0}, {0, -1}, {w, h - 1}, {w - 1, h}, {-1, h - 1},
                {w, -1}, {w, h}, {-1, -1}, {w - 8, 1 - 8}, {LEAST, 0}, {0, LEAST}, {MOST, 0},
                {0, MOST}, {0, 1 << 30}, {1 << 29, 0}, {-w, 1}};
            for (int[] at : wrong) {
                LosslessPixels x = Whole.used();
                x.size(w, h);
                x.set(w - 1, h - 1, 9);
                String what = "of " + w + " by " + h + ": " + at[0] + " " + at[1];
                Check.outside("pixel " + what, () -> x.pixel(at[0], at[1]));
                Whole.refused(IndexOutOfBoundsException.class, "set " + what, x,
                        () -> x.set(at[0], at[1], 1));
            }
        }
    }

    private static void pixel() {
        LosslessPixels x = new LosslessPixels();
        x.size(8, 8);
        for (int i = 0; i < 64; i++) {
            x.set(i % 8, i / 8, i * 0x84030201);
        }
        for (int i = 0; i < 64; i++) {
            Check.same("pixel " + i, i * 0x84030201, x.pixel(i % 8, i / 8));
        }
        x.size(2, 1);
        Check.outside("a column that was there before", () -> x.pixel(2, 0));
        Check.outside("a row that was there before", () -> x.pixel(0, 1));
    }

    private static void outsideAfterRead() {
        LosslessPixels x = new LosslessPixels();
        x.size(8, 8);
        Reading.start(3, 2).plainImage(5).readBy(x);
        Check.same("the last pixel", 5, x.pixel(2, 1));
        Check.outside("no column more", () -> x.pixel(3, 0));
        Check.outside("no row more", () -> x.pixel(0, 2));
        Check.outside("nor to be set", () -> x.set(3, 1, 0));
        Check.same("what was read can be set", 5, x.set(2, 1, 6));
    }

    /** "0 width, 1 height, 2 …; NONE for other numbers." */
    private static void measure() {
        LosslessPixels x = new LosslessPixels();
        x.size(8, 5);
        Check.same("measure 0", 8, x.measure(0));
        Check.same("measure 1", 5, x.measure(1));
        Check.same("measure 2", 1, x.measure(2));
        for (int what : new int[] {-1, 3, 4, 256, LEAST, MOST}) {
            LosslessPixels y = Whole.used();
            String before = Whole.of(y);
            Whole.stays("measure " + what, y, LosslessPixels.NONE, y.measure(what), before);
        }
        Reading.start(2, 7).plainImage(5).readBy(x);
        Check.same("the width that was read", 2, x.measure(0));
        Check.same("the height that was read", 7, x.measure(1));
    }

    /** "How many different colours there are; (all four parts told apart;)". */
    private static void measureOfColours() {
        LosslessPixels x = new LosslessPixels();
        x.size(8, 8);
        for (int shift = 0; shift < 32; shift += 8) {
            x.set(shift / 8, 3, 1 << shift);
            Check.same("parts told apart", 2 + shift / 8, x.measure(2));
        }
        for (int shift = 0; shift < 32; shift += 8) {
            x.set(shift / 8, 4, 128 << shift);
            Check.same("their highest bits, too", 6 + shift / 8, x.measure(2));
        }
        x.set(7, 4, 1);
        Check.same("a colour twice", 9, x.measure(2));
        for (int i = 0; i < 64; i++) {
            x.set(i % 8, i / 8, i << 26);
        }
        Check.same("all of them different", 64, x.measure(2));
        Check.same("no pixel is changed", 63 << 26, x.pixel(7, 7));
        x.set(7, 7, 0);
        Check.same("the last like the first", 63, x.measure(2));
        x.size(2, 1);
        Check.same("two pixels 0", 1, x.measure(2));
        x.set(1, 0, 9);
        Check.same("a pixel that is no more does not count", 2, x.measure(2));
        x.set(0, 0, 9);
        Check.same("two of them alike", 1, x.measure(2));
    }
}
