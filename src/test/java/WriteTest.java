/** Promise 11: what is written, bit by bit, and what is not written. */
public final class WriteTest {
    public static void main(String[] args) {
        plain();
        lastByte();
        cached();
        cachedWhereItWouldBePut();
        codesByLengths();
        evenLengths();
        oneOrTwoSymbolsBelow256();
        runsOfZeros();
        copies();
        longestAndFurthestCopy();
        longestCopies();
        lengthBeforeDistance();
        copiesBeforeTheCache();
        palette();
        paletteInOrder();
        paletteAtTheEndOfRows();
        paletteOfFive();
        cacheOfTheImageAlone();
        paletteOfSixteen();
        paletteOfSeventeen();
        green();
        modes();
        modesOfFourBlocks();
        modesAreUndone();
        modesBehindAPalette();
        allTogether();
        fullPictures();
        wrongArguments();
        allArguments();
        longest();
        Check.end();
    }

    private static LosslessPixels picture(int w, int h, int... pixels) {
        LosslessPixels x = new LosslessPixels();
        x.size(w, h);
        for (int i = 0; i < pixels.length; i++) {
            x.set(i % w, i / w, pixels[i]);
        }
        return x;
    }

    /** Checks the latest write: its answer, all bytes, and that reading gives the picture again. */
    private static void written(String what, LosslessPixels x, int answer, Say due) {
        Check.same(what + ": how many bits", due.count(), answer);
        Check.same(what, due.text(), Say.bitsOf(x, due.count()));
        int bytes = (due.count() + 7) / 8;
        int rest = bytes * 8 - due.count();
        Check.same(what + ": zeros at the end", 0, x.byteAt(bytes - 1) >> 8 - rest);
        Check.same(what + ": no byte more", LosslessPixels.NONE, x.byteAt(bytes));
        String picture = Say.pictureOf(x);
        x.size(1, 1);
        Check.same(what + ": read again", answer, x.read());
        Check.same(what + ": the picture read again", picture, Say.pictureOf(x));
    }

    private static void plain() {
        LosslessPixels x = new LosslessPixels();
        x.feed(-1, 8);
        written("one pixel 0", x, x.write(false, false, -1, 0),
                new Say().raw("11110100 000 000 0 0" + " 1 0 1 00000000".repeat(5)));
        LosslessPixels y = picture(8, 3, 0xA1B2C3D4, 0xA1B2C4D4);
        y.size(2, 1);
        y.set(0, 0, 0xA1B2C3D4);
        y.set(1, 0, 0xA1B3C2D4);
        written("two pixels", y, y.write(false, false, -1, 0),
                Say.picture(2, 1).noMoreTransforms().noCache().two(0xC2, 0xC3).two(0xB2, 0xB3)
                        .one(0xD4).one(0xA1).one(0).raw("1 0").raw("0 1"));
    }

    /** "With bits 0 at the end of its last byte", whatever the stream had there before. */
    private static void lastByte() {
        int[][] sides = {{4, 1}, {5, 1}, {3, 2}, {7, 1}, {4, 2}, {3, 3}, {5, 2}};
        // No three of these come twice, so there is no copy.
        String alphas = "0001011100";
        boolean[] seen = new boolean[8];
        for (int[] side : sides) {
            for (int green = 0; green < 2; green++) {
                int count = side[0] * side[1];
                int[] pixels = new int[count];
                for (int i = 0; i < count; i++) {
                    pixels[i] = alphas.charAt(i) - '0' << 24;
                }
                LosslessPixels x = picture(side[0], side[1], pixels);
                Say.feed("1".repeat(800), x);
                Say due = Say.picture(side[0], side[1]);
                due = green == 0 ? due : due.transform(2);
                due.noMoreTransforms().noCache().one(0).one(0).one(0).two(0, 1).one(0);
                due.raw(alphas.substring(0, count));
                written("a last byte", x, x.write(false, green == 1, -1, 0), due);
                seen[due.count() % 8] = true;
            }
        }
        for (int i = 0; i < 8; i++) {
            Check.isTrue("a last byte of " + i + " bits was written", seen[i]);
        }
    }

    /** The head of a small code: its lengths for 17, 18, 0, 1, 2, 3, 4, 5, and zeros. */
    private static Say small(Say say, int... lengths) {
        say.raw("0 1111");
        for (int i = 0; i < 19; i++) {
            say.number(i < lengths.length ? lengths[i] : 0, 3);
        }
        return say;
    }

    private static void cached() {
        LosslessPixels x = new LosslessPixels();
        // G has 280 alone, of 282: 138, 138 and 4 zeros, a 1, a 0 by 18, 18, 17, 1, 0.
        Say due = small(Say.picture(1, 1).noMoreTransforms().raw("1 00"), 2, 2, 2, 2);
        due.raw("11").number(127, 7).raw("11").number(127, 7).raw("10").number(1, 3).raw("01 00");
        due.one(0).one(0).one(0).one(0);
        written("a pixel 0 is in the cache at first", x, x.write(false, false, -1, 1), due);
        // 0x0100 comes twice; with 16 colours it has the place 0x1E35A7BD * 256 >>> 28 = 3.
        LosslessPixels y = picture(2, 1, 0x100, 0x100);
        Say two = small(Say.picture(2, 1).noMoreTransforms().raw("1 11"), 2, 2, 2, 2);
        // G has 1 and 283, of 296: 0, 1, 281 zeros, 1, 12 zeros.
        two.raw("00 01").raw("11").number(127, 7).raw("11").number(127, 7).raw("10").number(2, 3)
                .raw("01").raw("11").number(1, 7);
        two.one(0).one(0).one(0).one(0).raw("0 1");
        written("the second of two from the cache", y, y.write(false, false, -1, 4), two);
    }

    /** "The colour of the cache, if the cache has the pixel where it would be put." */
    private static void cachedWhereItWouldBePut() {
        int[] at0 = new int[4];
        int found = 0;
        for (int green = 1; found < 4; green++) {
            if (Reading.place(green * 256, 1) == 0) {
                at0[found++] = green * 256;
            }
        }
        int at1 = 0x100;
        while (Reading.place(at1, 1) == 0) {
            at1 += 0x100;
        }
        saidByCache("the same again", 1, at0[0], at0[0]);
        saidByCache("another has its place then", 0, at0[0], at0[1], at0[0]);
        saidByCache("another has another place", 1, at0[0], at1, at0[0]);
        saidByCache("0 at first", 1, 0);
        saidByCache("0 where nothing else was put", 1, at1, 0);
        saidByCache("0 where another was put", 0, at0[0], 0);
        // The copy of three puts them into the cache, the last of them last.
        saidByCache("the last one copied", 1, at0[0], at0[1], at0[2], at0[3], at0[0], at0[1], at0[2],
                at0[2]);
        saidByCache("not the last one before the copy", 0, at0[0], at0[1], at0[2], at0[3], at0[0],
                at0[1], at0[2], at0[0]);
    }

    /** So many pixels of a row are said by a cache of two colours; and none without a cache. */
    private static void saidByCache(String what, int due, int... pixels) {
        LosslessPixels x = picture(pixels.length, 1, pixels);
        String before = Say.pictureOf(x);
        x.write(false, false, -1, 1);
        Check.same(what + ": by the cache", due, x.had(6));
        Check.same(what + ": copies", pixels.length == 8 ? 1 : 0, x.had(5));
        x.size(1, 1);
        x.read();
        Check.same(what + ": read again", before, Say.pictureOf(x));
        x.write(false, false, -1, 0);
        Check.same(what + ": without a cache", 0, x.had(6));
    }

    private static void codesByLengths() {
        // Three symbols 0, 1, 4: lengths 1, 2, 2; said 1, 2, 0, 0, 2, and 275 zeros for G.
        LosslessPixels x = picture(3, 1, 0x000, 0x100, 0x400);
        Say due = small(Say.picture(3, 1).noMoreTransforms().noCache(), 0, 2, 2, 2, 2);
        due.raw("01 10 00 00 10").raw("11").number(127, 7).raw("11").number(126, 7);
        due.one(0).one(0).one(0).one(0).raw("0 10 11");
        written("three symbols", x, x.write(false, false, -1, 0), due);
        // Five alphas 0 .. 4: lengths 2, 2, 2, 3, 3, and 251 zeros: 138 and 113.
        LosslessPixels y = picture(5, 1, 0, 1 << 24, 2 << 24, 3 << 24, 4 << 24);
        Say five = Say.picture(5, 1).noMoreTransforms().noCache().one(0).one(0).one(0);
        // The small code has 2, 3 and 18: 2 has 1 bit, 3 and 18 have 2.
        small(five, 0, 2, 0, 0, 1, 2);
        five.raw("0 0 0 10 10").raw("11").number(127, 7).raw("11").number(113 - 11, 7);
        five.one(0).raw("00 01 10 110 111");
        written("five symbols", y, y.write(false, false, -1, 0), five);
    }

    /** "The least b so that 2^b is n or more, the first 2^b - n of them … b - 1, all others b." */
    private static void evenLengths() {
        for (int h = 1; h <= 8; h++) {
            for (int w = h == 1 ? 3 : 2; w <= 8; w++) {
                redsUpTo(w, h);
            }
        }
    }

    /** As many reds as pixels, from 0 on. */
    private static void redsUpTo(int w, int h) {
        int n = w * h;
        int b = 2;
        while (1 << b < n) {
            b++;
        }
        int shorter = (1 << b) - n;
        int[] pixels = new int[n];
        Say due = Say.picture(w, h).noMoreTransforms().noCache().one(0).raw("0 1111");
        // b - 1, if there is one, has the word 0; b and 18 have 10 and 11, or else 0 and 1.
        int[] order = {17, 18, 0, 1, 2, 3, 4, 5, 16, 6, 7, 8, 9, 10, 11, 12, 13, 14, 15};
        for (int symbol : order) {
            boolean last = symbol == b || symbol == 18;
            due.number(last ? (shorter == 0 ? 1 : 2) : symbol == b - 1 && shorter > 0 ? 1 : 0, 3);
        }
        Say said = new Say();
        for (int i = 0; i < n; i++) {
            pixels[i] = i << 16;
            due.raw(shorter == 0 ? "0" : i < shorter ? "0" : "10");
            said.word(i < shorter ? i : i + shorter, i < shorter ? b - 1 : b);
        }
        String run = shorter == 0 ? "1" : "11";
        due.raw(run).number(127, 7).raw(run).number(256 - n - 138 - 11, 7);
        due.one(0).one(0).one(0).raw(said.text());
        LosslessPixels x = picture(w, h, pixels);
        written(n + " reds", x, x.write(false, false, -1, 0), due);
    }

    /** "One or two of them, below 256: by the bit 1 … Otherwise lengths: one symbol alone has 1." */
    private static void oneOrTwoSymbolsBelow256() {
        LosslessPixels x = picture(3, 1, 0xFFFFFFFF, 0xFFFFFFFF, 0xFFFFFFFF);
        written("255", x, x.write(false, false, -1, 0),
                Say.picture(3, 1).noMoreTransforms().plainImage(0xFFFFFFFF));
        LosslessPixels y = picture(2, 1, 0xFF00FF00, 0xFE01FE01);
        written("254 and 255", y, y.write(false, false, -1, 0), Say.picture(2, 1)
                .noMoreTransforms().noCache().two(254, 255).two(0, 1).two(0, 1).two(254, 255).one(0)
                .raw("1 0 0 1").raw("0 1 1 0"));
        // The first 0 is in the cache, then comes a copy of 3: the symbols 258 and 280, of 282.
        LosslessPixels z = picture(4, 1, 0, 0, 0, 0);
        Say due = small(Say.picture(4, 1).noMoreTransforms().raw("1 00"), 0, 2, 1, 2);
        due.raw("11").number(127, 7).raw("11").number(120 - 11, 7).raw("10");
        due.raw("11").number(21 - 11, 7).raw("10 0");
        due.one(0).one(0).one(0).one(6).raw("1").raw("0").number(0, 2);
        written("two symbols, none below 256", z, z.write(false, false, -1, 1), due);
    }

    private static void runsOfZeros() {
        // Reds with runs of 1, 2, 3, 10, 11 and 12 zeros before them, and what is left behind.
        int[] reds = {1, 4, 8, 19, 31, 44};
        LosslessPixels x = new LosslessPixels();
        x.size(6, 1);
        for (int i = 0; i < 6; i++) {
            x.set(i, 0, reds[i] << 16);
        }
        Say due = Say.picture(6, 1).noMoreTransforms().noCache().one(0);
        // Used: 0, 2, 3, 17, 18; of these 0, 2, 3 have 2 bits, 17 and 18 have 3. 211 zeros are left.
        small(due, 3, 3, 2, 0, 2, 2);
        due.raw("00 01").raw("00 00 01").raw("110").number(0, 3).raw("10").raw("110").number(7, 3);
        due.raw("10").raw("111").number(0, 7).raw("10").raw("111").number(1, 7).raw("10");
        due.raw("111").number(127, 7).raw("111").number(211 - 138 - 11, 7);
        due.one(0).one(0).one(0).raw("00 01 100 101 110 111");
        written("runs of zeros", x, x.write(false, false, -1, 0), due);
        // 148 zeros are 138 and 10, 149 are 138 and 11, 139 are 138 and one, 140 and two.
        Say most = new Say().raw("11").number(127, 7);
        int[] few = {2, 2, 0, 2, 2};
        int[] none = {0, 2, 0, 1, 2};
        int[] single = {0, 2, 2, 2, 2};
        blues(148, few, "00", most.text() + "10 111", "01 01 11" + Reference.number(94, 7));
        blues(141, few, "00", most.text() + "10 000", "01 01 11" + Reference.number(101, 7));
        blues(149, none, "0", most.text() + "11 0000000", "10 10 11" + Reference.number(93, 7));
        blues(139, single, "01", most.text() + "00", "10 10 11" + Reference.number(103, 7));
        blues(140, single, "01", most.text() + "00 00", "10 10 11" + Reference.number(102, 7));
        blues(252, single, "01", most.text() + "11" + Reference.number(103, 7), "10 10 00");
    }

    /** Three blues, so many zeros between the first and the others, which stand together. */
    private static void blues(int zeros, int[] small, String first, String between, String others) {
        LosslessPixels x = picture(3, 1, 0, zeros + 1, zeros + 2);
        Say due = Say.picture(3, 1).noMoreTransforms().noCache().one(0).one(0);
        small(due, small).raw(first).raw(between).raw(others).one(0).one(0).raw("0 10 11");
        written(zeros + " zeros", x, x.write(false, false, -1, 0), due);
    }

    private static void copies() {
        // Green 1, then a copy of 3 at distance 1: length by prefix 2, k = 9 by prefix 6.
        LosslessPixels x = picture(4, 1, 0x100, 0x100, 0x100, 0x100);
        Say due = Say.picture(4, 1).noMoreTransforms().noCache();
        // 0, 1, 256 zeros (138, 118), 1, 21 zeros: 0, 1 and 18 are used.
        small(due, 0, 2, 1, 2).raw("0 10 11").number(127, 7).raw("11").number(118 - 11, 7);
        due.raw("10 11").number(21 - 11, 7);
        due.one(0).one(0).one(0).one(6).raw("0").raw("1").number(0, 2);
        written("a copy of 3 into what it makes", x, x.write(false, false, -1, 0), due);
        Check.same("a copy of 3", 1, x.had(5));
        LosslessPixels y = picture(3, 1, 0x100, 0x100, 0x100);
        written("no copy of 2", y, y.write(false, false, -1, 0), Say.picture(3, 1)
                .noMoreTransforms().noCache().one(1).one(0).one(0).one(0).one(0));
        Check.same("no copy", 0, y.had(5));
    }

    private static void longestAndFurthestCopy() {
        LosslessPixels x = new LosslessPixels();
        x.size(8, 8);
        for (int i = 0; i < 64; i++) {
            x.set(i % 8, i / 8, 0x100);
        }
        // Green 1, then a copy of 63 at distance 1: by prefix 11 and 14, and k = 9 by prefix 6.
        Say due = small(Say.picture(8, 8).noMoreTransforms().noCache(), 0, 2, 1, 2);
        due.raw("0 10 11").number(127, 7).raw("11").number(127 - 11, 7).raw("10 11").number(1, 7);
        due.one(0).one(0).one(0).one(6).raw("0").raw("1").number(14, 4).number(0, 2);
        written("a copy of 63", x, x.write(false, false, -1, 0), due);
        for (int i = 0; i < 64; i++) {
            x.set(i % 8, i / 8, i % 61 << 8);
        }
        String text = Say.bitsOf(x, x.write(false, false, -1, 0));
        Check.same("one copy of 3", 1, x.had(5));
        Check.isTrue("at distance 61, k = 69: D has the prefix 12 alone, and 4 behind it",
                text.contains(new Say().one(0).one(0).one(0).one(12).text())
                        && text.endsWith(new Say().raw("111111").number(4, 5).text()));
    }

    /** "The longest copy of at least 3 (of several the one with the least distance)." */
    private static void longestCopies() {
        int a = 0x100;
        int b = 0x200;
        int c = 0x300;
        int d = 0x400;
        // At 8 a copy of 3 at distance 3 and of 4 at distance 8 begin: the longest is said.
        LosslessPixels x = picture(6, 2, a, b, c, d, d, a, b, c, a, b, c, d);
        x.write(false, false, -1, 0);
        Check.same("at 5 three, at 8 four", 2, x.had(5));
        Check.isTrue("4 at the distance 8: k = 16 by prefix 7 and 3, behind 3 at 5: 13 by 7 and 0",
                bitsAtEnd(x, "00", "11"));
        // Copies of 3 at distances 4 and 8: the least distance is said, by prefix 6 and 3.
        LosslessPixels y = picture(8, 2, a, b, c, d, a, b, c, 9, a, b, c, 8, 7, 6, 5, 4);
        y.write(false, false, -1, 0);
        Check.same("two copies at distance 4", 2, y.had(5));
        String said = Say.bitsOf(y, y.read());
        Check.isTrue("D has the prefix 6 alone", said.contains(new Say().one(0).one(6).text()));
    }

    /** Whether the image ends with a copy, its distance's bits these, and these before the last. */
    private static boolean bitsAtEnd(LosslessPixels x, String before, String last) {
        int bits = x.read();
        String text = Say.bitsOf(x, bits);
        // G has a, b, c, d and prefixes 2 and 3: six words, the last two 110 and 111 of 3 bits; D one.
        return text.endsWith("110" + before + "111" + last);
    }

    /** "Each number and symbol in turn": the bits of a length stand before the symbol of D. */
    private static void lengthBeforeDistance() {
        // A copy of 5 at distance 1, and one of 5 at distance 5: k of 9 and of 13.
        int[] greens = {1, 1, 1, 1, 1, 1, 2, 3, 1, 1, 1, 2, 3, 3};
        LosslessPixels x = new LosslessPixels();
        x.size(7, 2);
        for (int i = 0; i < 14; i++) {
            x.set(i % 7, i / 7, greens[i] << 8);
        }
        // G has 1, 2, 3 and 260 by two bits, said as 0, 2, 2, 2, 256 zeros, 2, 19 zeros.
        Say due = small(Say.picture(7, 2).noMoreTransforms().noCache(), 0, 2, 1, 0, 2);
        due.raw("0 10 10 10").raw("11").number(127, 7).raw("11").number(118 - 11, 7);
        due.raw("10").raw("11").number(19 - 11, 7).one(0).one(0).one(0).two(6, 7);
        due.raw("00").raw("11").number(0, 1).raw("0").number(0, 2).raw("01 10");
        due.raw("11").number(0, 1).raw("1").number(0, 2).raw("10");
        written("two copies of 5", x, x.write(false, false, -1, 0), due);
        Check.same("two copies", 2, x.had(5));
    }

    /** "Wherever one begins at the pixel that is due … otherwise the colour of the cache." */
    private static void copiesBeforeTheCache() {
        LosslessPixels x = picture(8, 1, 7, 7, 7, 7, 8, 8, 8, 9);
        x.write(false, false, -1, 4);
        Check.same("three 7 are a copy", 1, x.had(5));
        Check.same("two 8 are said by the cache", 2, x.had(6));
        LosslessPixels y = picture(7, 1, 1, 2, 3, 4, 1, 2, 3);
        y.write(false, false, -1, 4);
        Check.same("three at the end are a copy", 1, y.had(5));
        LosslessPixels z = picture(6, 1, 1, 2, 3, 4, 1, 2);
        z.write(false, false, -1, 4);
        Check.same("two at the end are none", 0, z.had(5));
    }

    private static void palette() {
        // Without sign the less first: 0x7FFFFFFF, then 0x80000001; the difference part by part.
        LosslessPixels x = picture(3, 1, 0x80000001, 0x7FFFFFFF, 0x80000001);
        Say due = Say.picture(3, 1).transform(3).number(1, 4).noCache();
        // The first is 7F FF FF FF, the second said as 01 01 01 02: two symbols in each code.
        due.two(0x01, 0xFF).two(0x01, 0xFF).two(0x02, 0xFF).two(0x01, 0x7F).one(0);
        due.raw("1111").raw("0000");
        // Pixels 1, 0, 1: the green is 5; zeros for pixels that are not there.
        due.noMoreTransforms().noCache().one(5).one(0).one(0).one(255).one(0);
        written("a palette of two", x, x.write(true, false, -1, 0), due);
        LosslessPixels y = picture(1, 1, 0x01020304);
        written("a palette of one", y, y.write(true, false, -1, 0), Say.picture(1, 1).transform(3)
                .number(0, 4).plainImage(0x01020304).noMoreTransforms().plainImage(0xFF000000));
        LosslessPixels z = picture(5, 1, 0, 3, 2, 1, 3);
        // By two bits: 0, 3, 2, 1 is 0 + 12 + 32 + 64, then 3. The palette is said as 0, 1, 1, 1
        // without a copy, which would begin at the third and be of 2.
        Say four = Say.picture(5, 1).transform(3).number(3, 4).noCache();
        four.one(0).one(0).two(0, 1).one(0).one(0).raw("0 1 1 1");
        four.noMoreTransforms().noCache().two(3, 108).one(0).one(0).one(255).one(0).raw("1 0");
        written("a palette of four", z, z.write(true, false, -1, 0), four);
    }

    /** "3 by all colours there are, the less first (as numbers without sign)." */
    private static void paletteInOrder() {
        LosslessPixels x = picture(4, 1, 0xFFFFFFFF, 0, 0x7FFFFFFF, 0x80000000);
        String text = Say.bitsOf(x, x.write(true, false, -1, 0));
        // Numbers 3, 0, 1, 2 by two bits each.
        Say due = new Say().noMoreTransforms().noCache().one(3 + 16 + 128).one(0).one(0).one(255)
                .one(0);
        Check.isTrue("0, 7FFFFFFF, 80000000, FFFFFFFF", text.endsWith(due.text()));
        LosslessPixels y = picture(3, 1, 2, 0, 1);
        // By two bits 2, 0, 1, and 0 for no pixel. Differences are 0, 1, 1.
        Say three = Say.picture(3, 1).transform(3).number(2, 4).noCache().one(0).one(0).two(0, 1)
                .one(0).one(0).raw("0 1 1");
        three.noMoreTransforms().plainImage(0xFF001200);
        written("a palette of three", y, y.write(true, false, -1, 0), three);
    }

    /** "Those for no pixel being 0": what stands at the next row's beginning is not taken. */
    private static void paletteAtTheEndOfRows() {
        LosslessPixels x = picture(5, 2, 0, 1, 2, 0, 1, 2, 2, 2, 2, 2);
        Say due = Say.picture(5, 2).transform(3).number(2, 4).noCache().one(0).one(0).two(0, 1)
                .one(0).one(0).raw("0 1 1");
        // By two bits 0, 1, 2, 0 are 36; then 1; four times 2 are 170; then 2. Four symbols of two
        // bits, said as 0, 2, 2, 33 zeros, 2, 133 zeros, 2, 109 zeros, by 0, 2 and 18.
        small(due.noMoreTransforms().noCache(), 0, 2, 1, 0, 2).raw("0 10 10");
        due.raw("11").number(33 - 11, 7).raw("10 11").number(133 - 11, 7).raw("10 11")
                .number(109 - 11, 7).one(0).one(0).one(255).one(0).raw("10 00 11 01");
        written("a palette at the end of rows", x, x.write(true, false, -1, 0), due);
    }

    /** G for 0 and a copy of 3: 1, 257 zeros, 1, 21 zeros, by 1 and 18. */
    private static Say zeroAndCopyOf3(Say say) {
        return small(say, 0, 1, 0, 1).raw("0 1").number(127, 7).raw("1").number(119 - 11, 7)
                .raw("0 1").number(21 - 11, 7);
    }

    /** Differences 0, 1, 1, 1, 1: 0, 1, and a copy of 3 at distance 1. */
    private static Say fiveColours() {
        Say say = zeroAndCopyOf3(Say.picture(5, 1).transform(3).number(4, 4).noCache());
        return say.one(0).two(0, 1).one(0).one(6).raw("0 0").raw("0 1").raw("1").number(0, 2);
    }

    private static void paletteOfFive() {
        LosslessPixels x = picture(5, 1, 0, 1, 2, 3, 4);
        // By four bits 0x10, 0x32 and 0x04: 4 has 1 bit, 16 and 50 have 2. Said are 4 zeros, 1,
        // 11 zeros, 2, 33 zeros, 2, 229 zeros: by 1, 2, 17 and 18, of two bits each.
        Say due = small(fiveColours().noMoreTransforms().noCache(), 2, 2, 0, 2, 2);
        due.raw("10").number(1, 3).raw("00").raw("11").number(0, 7).raw("01");
        due.raw("11").number(33 - 11, 7).raw("01");
        due.raw("11").number(127, 7).raw("11").number(229 - 138 - 11, 7);
        due.one(0).one(0).one(255).one(0).raw("10 11 0");
        written("a palette of five", x, x.write(true, false, -1, 0), due);
    }

    /** "Images for palettes and modes have no cache", where the image has one. */
    private static void cacheOfTheImageAlone() {
        LosslessPixels x = picture(5, 1, 0, 1, 2, 3, 4);
        for (int cache = 1; cache <= 4; cache++) {
            String said = Say.bitsOf(x, x.write(true, false, -1, cache));
            Say palette = fiveColours().noMoreTransforms().cache(cache);
            Check.isTrue("a palette, and a cache", said.startsWith(palette.text()));
            said = Say.bitsOf(x, x.write(false, false, 6, cache));
            Say modes = Say.picture(5, 1).transform(0).plainImage(0xFF000600).noMoreTransforms()
                    .cache(cache);
            Check.isTrue("modes, and a cache", said.startsWith(modes.text()));
        }
    }

    private static void paletteOfSixteen() {
        LosslessPixels x = new LosslessPixels();
        x.size(8, 2);
        for (int i = 0; i < 16; i++) {
            x.set(i % 8, i / 8, i);
        }
        // Differences 0 and 15 times 1: 0, 1, and a copy of 14 at distance 1, by prefix 7 and 1.
        Say due = small(Say.picture(8, 2).transform(3).number(15, 4).noCache(), 0, 1, 0, 1);
        due.raw("0 1").number(127, 7).raw("1").number(124 - 11, 7).raw("0 1").number(16 - 11, 7);
        due.one(0).two(0, 1).one(0).one(6).raw("0 0").raw("0 1").raw("1").number(1, 2).number(0, 2);
        // 0x10, 0x32, 0x54 .. 0xFE: eight symbols of 3 bits, 33 zeros between them.
        small(due.noMoreTransforms().noCache(), 0, 1, 0, 0, 0, 1);
        due.raw("1").number(16 - 11, 7);
        for (int i = 0; i < 8; i++) {
            due.raw("0 1").number(i < 7 ? 33 - 11 : 25 - 11, 7);
        }
        due.one(0).one(0).one(255).one(0);
        for (int i = 0; i < 8; i++) {
            due.word(i, 3);
        }
        written("a palette of sixteen", x, x.write(true, false, -1, 0), due);
    }

    /** "Or a palette is asked for and there are more than 16 colours." */
    private static void paletteOfSeventeen() {
        for (int colours : new int[] {17, 18, 24, 40}) {
            LosslessPixels x = new LosslessPixels();
            x.feed(0x123456, 3);
            x.size(8, 5);
            for (int i = 0; i < 40; i++) {
                x.set(i % 8, i / 8, Math.min(i, colours - 1) * 0x10305070);
            }
            Check.same("colours", colours, x.measure(2));
            Class<?> due = IllegalArgumentException.class;
            String what = "a palette of " + colours;
            Whole.refused(due, what, x, () -> x.write(true, false, -1, 0));
            Whole.refused(due, what + " and all else", x, () -> x.write(true, true, 3, 4));
            Check.isTrue("without a palette", x.write(false, true, 3, 4) > 0);
            String had = Say.hadOf(x);
            Check.bad(what, () -> x.write(true, false, 0, 0));
            Check.same("what was had stays", had, Say.hadOf(x));
            x.size(4, 4);
            for (int i = 0; i < 16; i++) {
                x.set(i % 4, i / 4, i);
            }
            Check.isTrue("a palette of 16", x.write(true, false, -1, 0) > 0);
        }
    }

    private static void green() {
        LosslessPixels x = picture(1, 1, 0xA1B2C3D4);
        written("green is taken off", x, x.write(false, true, -1, 0), Say.picture(1, 1)
                .transform(2).noMoreTransforms().plainImage(0xA1EFC311));
    }

    private static void modes() {
        LosslessPixels x = picture(1, 1, 0xA1B2C3D4);
        for (int mode = 0; mode <= 13; mode++) {
            written("mode " + mode, x, x.write(false, false, mode, 0), Say.picture(1, 1).transform(0)
                    .plainImage(0xFF000000 | mode << 8).noMoreTransforms().plainImage(0xA2B2C3D4));
        }
        // Two blocks, so two pixels of modes; all is foretold but the first pixel.
        LosslessPixels y = new LosslessPixels();
        y.size(5, 1);
        Say due = Say.picture(5, 1).transform(0).plainImage(0xFF000B00).noMoreTransforms().noCache();
        // 0x01000000, then four times 0: a copy of 3 begins at the second of them.
        // G: 0 and 258: 1, 257 zeros (138, 119), 1, 21 zeros: 1 and 18 are used.
        small(due, 0, 1, 0, 1).raw("0 1").number(127, 7).raw("1").number(119 - 11, 7).raw("0 1")
                .number(21 - 11, 7);
        due.one(0).one(0).two(0, 1).one(6).raw("0 1").raw("0 0").raw("1").number(0, 2);
        written("two blocks", y, y.write(false, false, 11, 0), due);
    }

    private static void modesOfFourBlocks() {
        LosslessPixels x = new LosslessPixels();
        x.size(5, 5);
        for (int i = 0; i < 25; i++) {
            x.set(i % 5, i / 5, 0xFF000000);
        }
        // Modes: 5, and a copy of 3. G: 5 zeros, 1, 252 zeros, 1, 21 zeros, by 1, 17 and 18.
        Say due = small(Say.picture(5, 5).transform(0).noCache(), 2, 2, 0, 1);
        due.raw("10").number(2, 3).raw("0").raw("11").number(127, 7).raw("11").number(114 - 11, 7);
        due.raw("0 11").number(21 - 11, 7);
        due.one(0).one(0).one(255).one(6).raw("0").raw("1").number(0, 2);
        // All as foretold: 0, and a copy of 24 at distance 1, by prefix 8 and 7.
        small(due.noMoreTransforms().noCache(), 0, 1, 0, 1);
        due.raw("0 1").number(127, 7).raw("1").number(125 - 11, 7).raw("0 1").number(15 - 11, 7);
        due.one(0).one(0).one(0).one(6).raw("0").raw("1").number(7, 3).number(0, 2);
        written("four blocks", x, x.write(false, false, 5, 0), due);
    }

    /** "Each is done to the image so that undoing gives what was there." */
    private static void modesAreUndone() {
        for (int mode = 0; mode <= 13; mode++) {
            LosslessPixels x = new LosslessPixels();
            x.size(7, 6);
            for (int i = 0; i < 42; i++) {
                x.set(i % 7, i / 7, i * i * 0x1E3779B9 + i * 0x00800100);
            }
            String before = Say.pictureOf(x);
            int bits = x.write(false, mode % 2 == 0, mode, mode % 5);
            Check.same("the picture stays", before, Say.pictureOf(x));
            x.size(1, 1);
            Check.same("mode " + mode + ": bits read again", bits, x.read());
            Check.same("mode " + mode + ": read again", before, Say.pictureOf(x));
            Check.same("mode " + mode + ": had", 1, x.had(0));
        }
    }

    /** The image that a palette makes is one pixel wide here, so there are two blocks, not four. */
    private static void modesBehindAPalette() {
        LosslessPixels x = new LosslessPixels();
        x.size(8, 5);
        x.set(0, 0, 5);
        x.set(1, 2, 5);
        // Greens 1, 0, 2, 0, 0.
        Say due = Say.picture(8, 5).transform(3).number(1, 4).noCache().one(0).one(0).two(0, 5)
                .one(0).one(0).raw("0 1");
        due.transform(0).plainImage(0xFF000D00).noMoreTransforms().noCache();
        // To the one above: 1, -1, 2, -2, 0. Five symbols 0, 1, 2 of 2 bits, 254, 255 of 3.
        // Said are 2, 2, 2, 251 zeros, 3, 3, 24 zeros, by 2, 3 and 18: of 1, 2 and 2 bits.
        small(due, 0, 2, 0, 0, 1, 2).raw("0 0 0").raw("11").number(127, 7).raw("11")
                .number(113 - 11, 7).raw("10 10").raw("11").number(24 - 11, 7);
        due.one(0).one(0).one(0).one(0).raw("01 111 10 110 00");
        written("modes behind a palette", x, x.write(true, false, 13, 0), due);
    }

    private static void allTogether() {
        // The palette 0, 5 makes one pixel FF000200 of 0, 5; green off makes it FFFE02FE.
        LosslessPixels x = picture(2, 1, 0, 5);
        Say due = Say.picture(2, 1).transform(3).number(1, 4).noCache().one(0).one(0).two(0, 5)
                .one(0).one(0).raw("0 1");
        due.transform(2).transform(0).plainImage(0xFF000700).noMoreTransforms();
        due.plainImage(0x00FE02FE);
        written("palette, green, mode, in this order", x, x.write(true, true, 7, 0), due);
        Check.same("all had", "1 0 1 1 0 0 0 ", Say.hadOf(x));
    }

    /** Pictures of 64 pixels, of 64 colours and of 16, by each transform and by several at once. */
    private static void fullPictures() {
        for (int colours : new int[] {64, 16}) {
            for (int asked = 0; asked < 8; asked++) {
                boolean palette = asked % 2 == 1 && colours == 16;
                boolean green = asked / 2 % 2 == 1;
                int mode = asked < 4 ? -1 : 10;
                LosslessPixels x = new LosslessPixels();
                x.size(8, 8);
                for (int i = 0; i < 64; i++) {
                    x.set(i % 8, i / 8, i * 5 % colours * 0x13579BDF);
                }
                String before = Say.pictureOf(x);
                String what = "64 pixels of " + colours + " colours, asked " + asked;
                Check.answers(what + ": bits", Reference.encode(8, 8, pixelsOf(x), palette, green,
                        mode, 3).count, () -> x.write(palette, green, mode, 3));
                Check.same(what + ": the picture stays", before, Say.pictureOf(x));
                x.size(1, 1);
                x.read();
                Check.same(what + ": read again", before, Say.pictureOf(x));
            }
        }
    }

    private static int[] pixelsOf(LosslessPixels x) {
        int[] pixels = new int[64];
        for (int i = 0; i < 64; i++) {
            pixels[i] = x.pixel(i % 8, i / 8);
        }
        return pixels;
    }

    /** "IllegalArgumentException when mode or cache is another number … the stream stays as it was." */
    private static void wrongArguments() {
        int[][] wrong = {{-2, 0}, {14, 0}, {15, 0}, {Integer.MIN_VALUE, 0}, {Integer.MAX_VALUE, 0},
            {0, -1}, {0, 5}, {-1, Integer.MIN_VALUE}, {-1, Integer.MAX_VALUE}, {13, 5}, {-2, 4},
            {14, 5}};
        Class<?> due = IllegalArgumentException.class;
        for (int[] w : wrong) {
            String what = "write " + w[0] + " " + w[1];
            LosslessPixels x = picture(2, 1, 7, 8);
            x.feed(0x123456, 3);
            Whole.refused(due, what, x, () -> x.write(false, false, w[0], w[1]));
            Whole.refused(due, what + ", all asked for", x, () -> x.write(true, true, w[0], w[1]));
            LosslessPixels y = Whole.used();
            Whole.refused(due, what + ", of a used one", y, () -> y.write(true, false, w[0], w[1]));
        }
    }

    /** "Mode which one of 0 .. 13 is (none when -1), cache … 1 .. 4 (0 for none)": each is written. */
    private static void allArguments() {
        for (int mode = -1; mode <= 13; mode++) {
            for (int cache = 0; cache <= 4; cache++) {
                for (int asked = 0; asked < 4; asked++) {
                    LosslessPixels x = picture(5, 2, 1, 2, 3, 1, 2, 3, 1, 0x01020304, -1, 2);
                    String before = Say.pictureOf(x);
                    String what = "write " + asked + " " + mode + " " + cache;
                    int bits = x.write(asked % 2 == 1, asked > 1, mode, cache);
                    Check.same(what + ": had", (mode < 0 ? "0" : "1") + " 0 " + asked / 2 + " "
                            + asked % 2 + " " + (cache == 0 ? 0 : 1 << cache),
                            Say.hadOf(x).substring(0, cache == 4 ? 10 : 9));
                    x.size(1, 1);
                    Check.same(what + ": bits read again", bits, x.read());
                    Check.same(what + ": read again", before, Say.pictureOf(x));
                }
            }
        }
    }

    /** No picture is said to be too long: such ones as take most bits are written and read. */
    private static void longest() {
        LosslessPixels x = new LosslessPixels();
        x.size(8, 8);
        for (int i = 0; i < 64; i++) {
            int part = Math.min(i, 62) * 4 + 3;
            x.set(i % 8, i / 8, i == 63 ? 0xFBF7F3EF : part * 0x01010101);
        }
        String picture = Say.pictureOf(x);
        for (int cache = 0; cache <= 4; cache++) {
            int bits = x.write(false, false, -1, cache);
            Check.isTrue("many bits: " + bits, bits > 3000 && bits <= 5600);
            Check.same("as many read", bits, x.read());
            Check.same("the picture", picture, Say.pictureOf(x));
        }
    }
}
