/** Promise 11: what is written, bit by bit, and what is not written. */
public final class WriteTest {
    public static void main(String[] args) {
        plain();
        cached();
        codesByLengths();
        runsOfZeros();
        copies();
        palette();
        paletteOfMany();
        green();
        modes();
        allTogether();
        wrongArguments();
        longest();
        Check.end();
    }

    private static LosslessPixels picture(int w, int h, int... pixels) {
        LosslessPixels x = new LosslessPixels();
        x.size(w, h);
        for (int i = 0; i < pixels.length; i++) {
            x.set(i % w, i / w, pixels[i]);
        }
        return x;
    }

    /** Checks the latest write: its answer, all bytes, and that reading gives the picture again. */
    private static void written(String what, LosslessPixels x, int answer, Say due) {
        Check.same(what + ": how many bits", due.count(), answer);
        Check.same(what, due.text(), Say.bitsOf(x, due.count()));
        int bytes = (due.count() + 7) / 8;
        int rest = bytes * 8 - due.count();
        Check.same(what + ": zeros at the end", 0, x.byteAt(bytes - 1) >> 8 - rest);
        Check.same(what + ": no byte more", LosslessPixels.NONE, x.byteAt(bytes));
        String picture = Say.pictureOf(x);
        x.size(1, 1);
        Check.same(what + ": read again", answer, x.read());
        Check.same(what + ": the picture read again", picture, Say.pictureOf(x));
    }

    private static void plain() {
        LosslessPixels x = new LosslessPixels();
        x.feed(-1, 8);
        written("one pixel 0", x, x.write(false, false, -1, 0),
                new Say().raw("11110100 000 000 0 0" + " 1 0 1 00000000".repeat(5)));
        LosslessPixels y = picture(8, 3, 0xA1B2C3D4, 0xA1B2C4D4);
        y.size(2, 1);
        y.set(0, 0, 0xA1B2C3D4);
        y.set(1, 0, 0xA1B3C2D4);
        written("two pixels", y, y.write(false, false, -1, 0),
                Say.picture(2, 1).noMoreTransforms().noCache().two(0xC2, 0xC3).two(0xB2, 0xB3)
                        .one(0xD4).one(0xA1).one(0).raw("1 0").raw("0 1"));
    }

    /** The head of a small code: its lengths for 17, 18, 0, 1, 2, 3, 4, 5, and zeros. */
    private static Say small(Say say, int... lengths) {
        say.raw("0 1111");
        for (int i = 0; i < 19; i++) {
            say.number(i < lengths.length ? lengths[i] : 0, 3);
        }
        return say;
    }

    private static void cached() {
        LosslessPixels x = new LosslessPixels();
        // G has 280 alone, of 282: 138, 138 and 4 zeros, a 1, a 0 by 18, 18, 17, 1, 0.
        Say due = small(Say.picture(1, 1).noMoreTransforms().raw("1 00"), 2, 2, 2, 2);
        due.raw("11").number(127, 7).raw("11").number(127, 7).raw("10").number(1, 3).raw("01 00");
        due.one(0).one(0).one(0).one(0);
        written("a pixel 0 is in the cache at first", x, x.write(false, false, -1, 1), due);
        // 0x0100 comes twice; with 16 colours it has the place 0x1E35A7BD * 256 >>> 28 = 3.
        LosslessPixels y = picture(2, 1, 0x100, 0x100);
        Say two = small(Say.picture(2, 1).noMoreTransforms().raw("1 11"), 2, 2, 2, 2);
        // G has 1 and 283, of 296: 0, 1, 281 zeros, 1, 12 zeros.
        two.raw("00 01").raw("11").number(127, 7).raw("11").number(127, 7).raw("10").number(2, 3)
                .raw("01").raw("11").number(1, 7);
        two.one(0).one(0).one(0).one(0).raw("0 1");
        written("the second of two from the cache", y, y.write(false, false, -1, 4), two);
    }

    private static void codesByLengths() {
        // Three symbols 0, 1, 4: lengths 1, 2, 2; said 1, 2, 0, 0, 2, and 275 zeros for G.
        LosslessPixels x = picture(3, 1, 0x000, 0x100, 0x400);
        Say due = small(Say.picture(3, 1).noMoreTransforms().noCache(), 0, 2, 2, 2, 2);
        due.raw("01 10 00 00 10").raw("11").number(127, 7).raw("11").number(126, 7);
        due.one(0).one(0).one(0).one(0).raw("0 10 11");
        written("three symbols", x, x.write(false, false, -1, 0), due);
        // Five alphas 0 .. 4: lengths 2, 2, 2, 3, 3, and 251 zeros: 138 and 113.
        LosslessPixels y = picture(5, 1, 0, 1 << 24, 2 << 24, 3 << 24, 4 << 24);
        Say five = Say.picture(5, 1).noMoreTransforms().noCache().one(0).one(0).one(0);
        // The small code has 2, 3 and 18: 2 has 1 bit, 3 and 18 have 2.
        small(five, 0, 2, 0, 0, 1, 2);
        five.raw("0 0 0 10 10").raw("11").number(127, 7).raw("11").number(113 - 11, 7);
        five.one(0).raw("00 01 10 110 111");
        written("five symbols", y, y.write(false, false, -1, 0), five);
    }

    private static void runsOfZeros() {
        // Reds with runs of 1, 2, 3, 10, 11 and 12 zeros before them, and what is left behind.
        int[] reds = {1, 4, 8, 19, 31, 44};
        LosslessPixels x = new LosslessPixels();
        x.size(6, 1);
        for (int i = 0; i < 6; i++) {
            x.set(i, 0, reds[i] << 16);
        }
        Say due = Say.picture(6, 1).noMoreTransforms().noCache().one(0);
        // Used: 0, 2, 3, 17, 18; of these 0, 2, 3 have 2 bits, 17 and 18 have 3. 211 zeros are left.
        small(due, 3, 3, 2, 0, 2, 2);
        due.raw("00 01").raw("00 00 01").raw("110").number(0, 3).raw("10").raw("110").number(7, 3);
        due.raw("10").raw("111").number(0, 7).raw("10").raw("111").number(1, 7).raw("10");
        due.raw("111").number(127, 7).raw("111").number(211 - 138 - 11, 7);
        due.one(0).one(0).one(0).raw("00 01 100 101 110 111");
        written("runs of zeros", x, x.write(false, false, -1, 0), due);
        // 148 zeros are 138 and 10, 149 are 138 and 11, 139 are 138 and one, 140 and two.
        Say most = new Say().raw("11").number(127, 7);
        int[] few = {2, 2, 0, 2, 2};
        int[] none = {0, 2, 0, 1, 2};
        int[] single = {0, 2, 2, 2, 2};
        blues(148, few, "00", most.text() + "10 111", "01 01 11" + Reference.number(94, 7));
        blues(141, few, "00", most.text() + "10 000", "01 01 11" + Reference.number(101, 7));
        blues(149, none, "0", most.text() + "11 0000000", "10 10 11" + Reference.number(93, 7));
        blues(139, single, "01", most.text() + "00", "10 10 11" + Reference.number(103, 7));
        blues(140, single, "01", most.text() + "00 00", "10 10 11" + Reference.number(102, 7));
        blues(252, single, "01", most.text() + "11" + Reference.number(103, 7), "10 10 00");
    }

    /** Three blues, so many zeros between the first and the others, which stand together. */
    private static void blues(int zeros, int[] small, String first, String between, String others) {
        LosslessPixels x = picture(3, 1, 0, zeros + 1, zeros + 2);
        Say due = Say.picture(3, 1).noMoreTransforms().noCache().one(0).one(0);
        small(due, small).raw(first).raw(between).raw(others).one(0).one(0).raw("0 10 11");
        written(zeros + " zeros", x, x.write(false, false, -1, 0), due);
    }

    private static void copies() {
        // Green 1, then a copy of 3 at distance 1: length by prefix 2, k = 9 by prefix 6.
        LosslessPixels x = picture(4, 1, 0x100, 0x100, 0x100, 0x100);
        Say due = Say.picture(4, 1).noMoreTransforms().noCache();
        // 0, 1, 256 zeros (138, 118), 1, 21 zeros: 0, 1 and 18 are used.
        small(due, 0, 2, 1, 2).raw("0 10 11").number(127, 7).raw("11").number(118 - 11, 7);
        due.raw("10 11").number(21 - 11, 7);
        due.one(0).one(0).one(0).one(6).raw("0").raw("1").number(0, 2);
        written("a copy of 3 into what it makes", x, x.write(false, false, -1, 0), due);
        Check.same("a copy of 3", 1, x.had(5));
        LosslessPixels y = picture(3, 1, 0x100, 0x100, 0x100);
        written("no copy of 2", y, y.write(false, false, -1, 0), Say.picture(3, 1)
                .noMoreTransforms().noCache().one(1).one(0).one(0).one(0).one(0));
        Check.same("no copy", 0, y.had(5));
        longestCopies();
    }

    private static void longestCopies() {
        int a = 0x100;
        int b = 0x200;
        int c = 0x300;
        int d = 0x400;
        // At 8 a copy of 3 at distance 3 and of 4 at distance 8 begin: the longest is said.
        LosslessPixels x = picture(6, 2, a, b, c, d, d, a, b, c, a, b, c, d);
        x.write(false, false, -1, 0);
        Check.same("at 5 three, at 8 four", 2, x.had(5));
        Check.isTrue("4 at the distance 8: k = 16 by prefix 7 and 3, behind 3 at 5: 13 by 7 and 0",
                bitsAtEnd(x, "00", "11"));
        // Copies of 3 at distances 4 and 8: the least distance is said, by prefix 6 and 3.
        LosslessPixels y = picture(8, 2, a, b, c, d, a, b, c, 9, a, b, c, 8, 7, 6, 5, 4);
        y.write(false, false, -1, 0);
        Check.same("two copies at distance 4", 2, y.had(5));
        String said = Say.bitsOf(y, y.read());
        Check.isTrue("D has the prefix 6 alone", said.contains(new Say().one(0).one(6).text()));
    }

    /** Whether the image ends with a copy, its distance's bits these, and these before the last. */
    private static boolean bitsAtEnd(LosslessPixels x, String before, String last) {
        int bits = x.read();
        String text = Say.bitsOf(x, bits);
        // G has a, b, c, d and prefixes 2 and 3: six words, the last two 110 and 111 of 3 bits; D one.
        return text.endsWith("110" + before + "111" + last);
    }

    private static void palette() {
        // Without sign the less first: 0x7FFFFFFF, then 0x80000001; the difference part by part.
        LosslessPixels x = picture(3, 1, 0x80000001, 0x7FFFFFFF, 0x80000001);
        Say due = Say.picture(3, 1).transform(3).number(1, 4).noCache();
        // The first is 7F FF FF FF, the second said as 01 01 01 02: two symbols in each code.
        due.two(0x01, 0xFF).two(0x01, 0xFF).two(0x02, 0xFF).two(0x01, 0x7F).one(0);
        due.raw("1111").raw("0000");
        // Pixels 1, 0, 1: the green is 5; zeros for pixels that are not there.
        due.noMoreTransforms().noCache().one(5).one(0).one(0).one(255).one(0);
        written("a palette of two", x, x.write(true, false, -1, 0), due);
        LosslessPixels y = picture(1, 1, 0x01020304);
        written("a palette of one", y, y.write(true, false, -1, 0), Say.picture(1, 1).transform(3)
                .number(0, 4).plainImage(0x01020304).noMoreTransforms().plainImage(0xFF000000));
        LosslessPixels z = picture(5, 1, 0, 3, 2, 1, 3);
        // By two bits: 0, 3, 2, 1 is 0 + 12 + 32 + 64, then 3. The palette is said as 0, 1, 1, 1
        // without a copy, which would begin at the third and be of 2.
        Say four = Say.picture(5, 1).transform(3).number(3, 4).noCache();
        four.one(0).one(0).two(0, 1).one(0).one(0).raw("0 1 1 1");
        four.noMoreTransforms().noCache().two(3, 108).one(0).one(0).one(255).one(0).raw("1 0");
        written("a palette of four", z, z.write(true, false, -1, 0), four);
    }

    private static void paletteOfMany() {
        LosslessPixels x = new LosslessPixels();
        x.size(8, 3);
        for (int i = 0; i < 24; i++) {
            x.set(i % 8, i / 8, Math.min(i, 15) * 0x10305070);
        }
        Check.same("sixteen colours", 16, x.measure(2));
        String before = Say.pictureOf(x);
        int bits = x.write(true, false, -1, 0);
        x.size(1, 1);
        Check.same("a palette of 16 is read again", bits, x.read());
        Check.same("its picture", before, Say.pictureOf(x));
        x.set(7, 2, 1);
        String stream = Say.bitsOf(x, 5600);
        String had = Say.hadOf(x);
        Check.bad("a palette of 17", () -> x.write(true, false, -1, 0));
        Check.bad("a palette of 17 and all else", () -> x.write(true, true, 3, 4));
        Check.same("the stream stays", stream, Say.bitsOf(x, 5600));
        Check.same("what was had stays", had, Say.hadOf(x));
        Check.isTrue("17 colours without a palette", x.write(false, true, 3, 4) > 0);
    }

    private static void green() {
        LosslessPixels x = picture(1, 1, 0xA1B2C3D4);
        written("green is taken off", x, x.write(false, true, -1, 0), Say.picture(1, 1)
                .transform(2).noMoreTransforms().plainImage(0xA1EFC311));
    }

    private static void modes() {
        LosslessPixels x = picture(1, 1, 0xA1B2C3D4);
        for (int mode = 0; mode <= 13; mode++) {
            written("mode " + mode, x, x.write(false, false, mode, 0), Say.picture(1, 1).transform(0)
                    .plainImage(0xFF000000 | mode << 8).noMoreTransforms().plainImage(0xA2B2C3D4));
        }
        // Two blocks, so two pixels of modes; all is foretold but the first pixel.
        LosslessPixels y = new LosslessPixels();
        y.size(5, 1);
        Say due = Say.picture(5, 1).transform(0).plainImage(0xFF000B00).noMoreTransforms().noCache();
        // 0x01000000, then four times 0: a copy of 3 begins at the second of them.
        // G: 0 and 258: 1, 257 zeros (138, 119), 1, 21 zeros: 1 and 18 are used.
        small(due, 0, 1, 0, 1).raw("0 1").number(127, 7).raw("1").number(119 - 11, 7).raw("0 1")
                .number(21 - 11, 7);
        due.one(0).one(0).two(0, 1).one(6).raw("0 1").raw("0 0").raw("1").number(0, 2);
        written("two blocks", y, y.write(false, false, 11, 0), due);
    }

    private static void allTogether() {
        // The palette 0, 5 makes one pixel FF000200 of 0, 5; green off makes it FFFE02FE.
        LosslessPixels x = picture(2, 1, 0, 5);
        Say due = Say.picture(2, 1).transform(3).number(1, 4).noCache().one(0).one(0).two(0, 5)
                .one(0).one(0).raw("0 1");
        due.transform(2).transform(0).plainImage(0xFF000700).noMoreTransforms();
        due.plainImage(0x00FE02FE);
        written("palette, green, mode, in this order", x, x.write(true, true, 7, 0), due);
        Check.same("all had", "1 0 1 1 0 0 0 ", Say.hadOf(x));
    }

    private static void wrongArguments() {
        LosslessPixels x = picture(2, 1, 7, 8);
        x.feed(0x123456, 3);
        int[][] wrong = {{-2, 0}, {14, 0}, {15, 0}, {Integer.MIN_VALUE, 0}, {Integer.MAX_VALUE, 0},
            {0, -1}, {0, 5}, {-1, Integer.MIN_VALUE}, {-1, Integer.MAX_VALUE}, {14, 5}};
        for (int[] w : wrong) {
            Check.bad("write " + w[0] + " " + w[1], () -> x.write(false, false, w[0], w[1]));
            Check.bad("write " + w[0] + " " + w[1], () -> x.write(true, true, w[0], w[1]));
            Check.same("the stream stays", 0x56, x.byteAt(0));
            Check.same("the stream stays", LosslessPixels.NONE, x.byteAt(3));
            Check.same("nothing was had", LosslessPixels.NONE, x.had(0));
            Check.same("the picture stays", "2x1 7 8", Say.pictureOf(x));
        }
        Check.isTrue("the least of each", x.write(false, false, -1, 0) > 0);
        Check.isTrue("the most of each", x.write(false, false, 13, 4) > 0);
    }

    /** No picture is said to be too long: such ones as take most bits are written and read. */
    private static void longest() {
        LosslessPixels x = new LosslessPixels();
        x.size(8, 8);
        for (int i = 0; i < 64; i++) {
            int part = Math.min(i, 62) * 4 + 3;
            x.set(i % 8, i / 8, i == 63 ? 0xFBF7F3EF : part * 0x01010101);
        }
        String picture = Say.pictureOf(x);
        for (int cache = 0; cache <= 4; cache++) {
            int bits = x.write(false, false, -1, cache);
            Check.isTrue("many bits: " + bits, bits > 3000 && bits <= 5600);
            Check.same("as many read", bits, x.read());
            Check.same("the picture", picture, Say.pictureOf(x));
        }
    }
}
