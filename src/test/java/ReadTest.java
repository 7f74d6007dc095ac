import java.util.Arrays;

/** Promise 10: the head of a stream, its end, the order of its transforms, and its images. */
public final class ReadTest {
    public static void main(String[] args) {
        mark();
        sides();
        bitsBehind();
        cutOff();
        lastBit();
        fullStream();
        readAgain();
        badLeavesAllAsItWas();
        kindsThatCameBefore();
        orders();
        everyOrder();
        partsOfPixels();
        lengthPrefixes();
        lengthsBeyondAllPictures();
        copies();
        lengthBeforeDistance();
        farDistances();
        nearDistances();
        distancesInImagesOfTransforms();
        cacheSizes();
        cachePlaces();
        cacheIsEmptyAtFirst();
        pixelsArePutIntoTheCache();
        Check.end();
    }

    /** "8 bits that are 47". */
    private static void mark() {
        Reading.good("the mark 47", Reading.start(1, 1).plainImage(5), "1x1 5");
        for (int bit = 0; bit < 8; bit++) {
            int mark = 47 ^ 1 << bit;
            Reading.bad("mark " + mark, new Say().number(mark, 8).number(0, 7).plainImage(5));
        }
        for (int mark : new int[] {0, 255, 244}) {
            Reading.bad("mark " + mark, new Say().number(mark, 8).number(0, 7).plainImage(5));
        }
    }

    /** "3 bits width - 1, 3 bits height - 1": from 1 to 8 each. */
    private static void sides() {
        for (int w = 1; w <= 8; w++) {
            for (int h = 1; h <= 8; h++) {
                Reading.good("sides " + w + " " + h, Reading.start(w, h).plainImage(0x84030201),
                        w + "x" + h + " 84030201".repeat(w * h));
            }
        }
        Say wide = new Say().raw("11110100 111 000 0").plainImage(6);
        Reading.good("the width comes first", wide, "8x1" + " 6".repeat(8));
    }

    /** "Bits behind what is read don't matter." */
    private static void bitsBehind() {
        Say say = Reading.start(1, 2).plainImage(9);
        for (String behind : new String[] {"", "1", "111", "0".repeat(64), "10".repeat(2700)}) {
            LosslessPixels x = new LosslessPixels();
            Say.feed(say.text() + behind, x);
            Check.same(behind.length() + " bits behind don't matter", say.count(), x.read());
            Check.same("nor do they for the picture", "1x2 9 9", Say.pictureOf(x));
        }
    }

    /** "Bad … when bits are to be read that it does not have", wherever the stream is cut off. */
    private static void cutOff() {
        Say few = Say.picture(5, 5).transform(0).plainImage(0x700).transform(2)
                .noMoreTransforms().cache(2).two(1, 200).two(4, 5).two(9, 3).one(255).one(0);
        for (int i = 0; i < 25; i++) {
            few.raw("101");
        }
        cutOffEverywhere("two symbols", few);
        Say many = Say.picture(8, 8).transform(3).number(2, 4).literalImage(1, 2, 3).transform(1)
                .plainImage(0x200020).noMoreTransforms();
        // 2 by 8 pixels: one, a copy of 7 at 1, one more, a copy of 7 at 2.
        Reading.copying(many.noCache(), 5, 6).raw("1").word(0x1B, 7).raw("0 0").number(0, 2)
                .raw("1").word(0x39, 7).raw("0 0").number(1, 2);
        cutOffEverywhere("a palette, and copies", many);
        Say runs = Reading.start(1, 1).noCache().bySmall().length(2).again(4).fewZeros(9)
                .manyZeros(138).manyZeros(127).one(0).one(0).one(0).one(0);
        Reading.bad("five words of two bits", runs);
        Say good = Reading.start(1, 1).noCache().bySmall().length(2).again(3).fewZeros(10)
                .manyZeros(138).manyZeros(128).one(0).one(0).one(0).one(0).raw("11");
        cutOffEverywhere("runs of lengths", good);
    }

    private static void cutOffEverywhere(String what, Say say) {
        String bits = say.text();
        LosslessPixels x = new LosslessPixels();
        Check.same(what + ": whole", bits.length(), say.readBy(x));
        String picture = Say.pictureOf(x);
        for (int bytes = 0; bytes * 8 < bits.length(); bytes++) {
            LosslessPixels y = new LosslessPixels();
            y.set(0, 0, 3);
            Say.feed(bits.substring(0, bytes * 8), y);
            Check.bad(what + ": cut off to " + bytes + " bytes", y::read);
            Check.same(what + ": cut off, the picture stays", "1x1 3", Say.pictureOf(y));
            Check.same(what + ": cut off, nothing was had", LosslessPixels.NONE, y.had(0));
            Check.same(what + ": cut off, the stream stays", bits.substring(0, bytes * 8),
                    Say.bitsOf(y));
            Say.feed(bits.substring(bytes * 8), y);
            Check.same(what + ": fed the rest", bits.length(), y.read());
            Check.same(what + ": fed the rest, the picture", picture, Say.pictureOf(y));
        }
    }

    /** The very last bit is there, or is the only one that is not. */
    private static void lastBit() {
        for (int w = 1; w <= 8; w++) {
            Say say = Reading.four(Reading.start(w, 1).noCache().two(1, 2)).raw("1".repeat(w));
            Check.same("bits", 79 + w, say.count());
            Reading.good("a last byte of " + (w == 1 ? 8 : w - 1) + " bits", say,
                    w + "x1" + " 200".repeat(w));
            LosslessPixels x = new LosslessPixels();
            Say.feed(say.text().substring(0, w == 1 ? 72 : 80), x);
            Check.bad("one byte less, width " + w, x::read);
        }
    }

    /** A stream of 700 bytes, the last bit of which is read; and one bit more. */
    private static void fullStream() {
        int[] chain = new int[32];
        for (int i = 0; i < 16; i++) {
            chain[2 * i] = i;
            chain[2 * i + 1] = Math.min(i + 1, 15);
        }
        Say say = Reading.start(8, 8).noCache();
        say.codeOneByOne(280, chain).codeOneByOne(256, 0, 1).codeOneByOne(256, 0, 1);
        say.codeOneByOne(256, 0, 1).codeOneByOne(40, 0, 1);
        Say tooLong = Reading.copyOf(say);
        int[] greens = new int[64];
        for (int i = 0; i < 64; i++) {
            int length = Math.min(15, 5600 - say.count() - (63 - i));
            say.raw("1".repeat(length - 1) + "0");
            tooLong.raw("1".repeat(i == 63 ? length : length - 1) + "0");
            greens[i] = length - 1;
        }
        LosslessPixels x = new LosslessPixels();
        Check.same("as many bits as a stream can have", 5600, say.readBy(x));
        Check.same("a full stream", Reading.greens(8, 8, greens), Say.pictureOf(x));
        Check.same("is still full", LosslessPixels.NONE, x.feed(0, 1));
        LosslessPixels y = new LosslessPixels();
        Say.feed(tooLong.text().substring(0, 5600), y);
        Check.same("one bit too long", 5601, tooLong.count());
        Check.bad("bit 5600 is not there", y::read);
        Check.same("the picture stays", "1x1 0", Say.pictureOf(y));
        Check.same("the stream stays", 700, y.wipe());
    }

    /** "The stream stays, in any case": it is read again from its first bit. */
    private static void readAgain() {
        LosslessPixels x = new LosslessPixels();
        Say say = Reading.start(2, 1).literalImage(0x01020304, -1);
        Check.same("read", say.count(), say.readBy(x));
        x.size(8, 8);
        Check.same("read again", say.count(), x.read());
        Check.same("its picture again", "2x1 1020304 ffffffff", Say.pictureOf(x));
        x.flip(0);
        Check.bad("now bad", x::read);
        Check.bad("bad again", x::read);
        x.flip(0);
        Check.same("good again", say.count(), x.read());
    }

    /** "IllegalArgumentException when it is bad: the picture stays as it was", wherever it is bad. */
    private static void badLeavesAllAsItWas() {
        int bits = Say.bitsOf(Whole.used()).length();
        int bad = 0;
        for (int i = 0; i < bits; i++) {
            LosslessPixels x = Whole.used();
            x.flip(i);
            String before = Whole.of(x);
            try {
                x.read();
                Check.isTrue("bit " + i + " changed: the stream stays",
                        before.endsWith("stream " + Say.bitsOf(x)));
            } catch (IllegalArgumentException e) {
                bad++;
                Check.same("bit " + i + " changed: all stays as it was", before, Whole.of(x));
            }
        }
        Check.isTrue("many are bad: " + bad + " of " + bits, bad > 100 && bad < bits - 100);
    }

    /** "2 bits a KIND (bad when it came before)". */
    private static void kindsThatCameBefore() {
        for (int kind = 0; kind < 4; kind++) {
            Say twice = Say.picture(2, 2).plainTransform(kind).plainTransform(kind);
            Reading.bad("kind " + kind + " twice", twice.noMoreTransforms().plainImage(0));
            Say all = Say.picture(2, 2);
            for (int other = 0; other < 4; other++) {
                all.plainTransform(other);
                if (other != kind) {
                    Say between = Say.picture(2, 2).plainTransform(kind).plainTransform(other);
                    Reading.bad("kind " + kind + ", " + other + ", " + kind,
                            between.plainTransform(kind).noMoreTransforms().plainImage(0));
                }
            }
            Reading.bad("kind " + kind + " behind all four",
                    all.plainTransform(kind).noMoreTransforms().plainImage(0));
        }
    }

    /** "The transforms are UNDONE, the latest first." */
    private static void orders() {
        Say all = Say.picture(2, 1).transform(2).transform(1).plainImage(0x20).transform(0)
                .plainImage(0).transform(3).number(1, 4).literalImage(0x00000100, 0x00000100);
        // By the palette 0x100, 0x200; foretold 0xFF000100, 0xFF000300; then red by b, then green.
        Reading.good("all four", all.noMoreTransforms().literalImage(0x200), "2x1 ff020101 ff060303");
        Say greenLast = Say.picture(2, 2).transform(0).plainImage(0x700).transform(2)
                .noMoreTransforms().literalImage(0, 0, 0x00010100, 0);
        Reading.good("green undone, then foretold by AV(L, T)", greenLast,
                "2x2 ff000000 ff000000 ff020101 ff010000");
        Say greenFirst = Say.picture(2, 2).transform(2).transform(0).plainImage(0x700)
                .noMoreTransforms().literalImage(0, 0, 0x00010100, 0);
        Reading.good("foretold by AV(L, T), then green undone", greenFirst,
                "2x2 ff000000 ff000000 ff020101 ff000000");
        Say partLast = Say.picture(1, 1).transform(2).transform(1).plainImage(0x200000)
                .noMoreTransforms().literalImage(0x00000300);
        Reading.good("blue by r and red, then green", partLast, "1x1 30303");
        Say partFirst = Say.picture(1, 1).transform(1).plainImage(0x200000).transform(2)
                .noMoreTransforms().literalImage(0x00000300);
        Reading.good("green, then blue by r and red", partFirst, "1x1 30306");
    }

    /** All 24 orders of all four transforms, as a second program reads them. */
    private static void everyOrder() {
        int count = 0;
        for (int order = 0; order < 256; order++) {
            int[] kinds = {order & 3, order >> 2 & 3, order >> 4 & 3, order >> 6};
            if (Arrays.stream(kinds).distinct().count() == 4) {
                Say say = inOrder(kinds);
                Reading.good("transforms " + Arrays.toString(kinds), say,
                        Reference.decode(say.text()).picture);
                count++;
            }
        }
        Check.same("orders", 24, count);
    }

    private static Say inOrder(int[] kinds) {
        int width = 7;
        Say say = Say.picture(7, 2);
        for (int kind : kinds) {
            say.transform(kind);
            if (kind == 3) {
                say.number(4, 4).literalImage(0x10203040, 0x01020304, 0x7F810183, 5, 0x9900AA00);
                width = 4;
            } else if (kind != 2) {
                say.literalImage(Arrays.copyOf(new int[] {0x1B2C0C3D, 0x5E604D7F}, (width + 3) / 4));
            }
        }
        int[] pixels = new int[width * 2];
        for (int i = 0; i < pixels.length; i++) {
            pixels[i] = (i + 1) * 0x1D372915;
        }
        return say.noMoreTransforms().literalImage(pixels);
    }

    /** "Below 256: it is the green; symbols of R, B and A are the other parts." */
    private static void partsOfPixels() {
        Reading.good("green, red, blue, alpha",
                Reading.start(2, 1).noCache().two(1, 2).two(3, 4).two(5, 6).two(7, 8).one(0)
                        .raw("0 1 1 1").raw("1 0 0 0"), "2x1 8040106 7030205");
        Reading.good("parts of 8 bits, highest first",
                Reading.start(2, 1).literalImage(0x80FE7F01, 0x12345678), "2x1 80fe7f01 12345678");
        Reading.good("255 is a green", Reading.start(2, 1).plainImage(0xFFFFFFFF),
                "2x1 ffffffff ffffffff");
        Reading.bad("256 is a copy, of nothing here",
                Reading.four(Reading.start(1, 1).noCache().code(280, 256, 1)));
        Reading.good("280 is a colour of the cache",
                Reading.four(Reading.start(1, 1).cache(1).code(282, 280, 1)), "1x1 0");
        Reading.bad("279 is the prefix of a length",
                Reading.four(Reading.start(8, 8).cache(1).code(282, 0, 1, 279, 1)).raw("01"));
    }

    /** Each prefix of a length with the bits that make the copy just fit, and one pixel too many. */
    private static void lengthPrefixes() {
        int[][] prefixBitsLength = {{0, 0, 0, 1}, {1, 0, 0, 2}, {2, 0, 0, 3}, {3, 0, 0, 4},
            {4, 1, 0, 5}, {4, 1, 1, 6}, {5, 1, 0, 7}, {5, 1, 1, 8}, {6, 2, 0, 9}, {6, 2, 3, 12},
            {7, 2, 0, 13}, {7, 2, 3, 16}, {8, 3, 0, 17}, {8, 3, 5, 22}, {9, 3, 0, 25}, {9, 3, 7, 32},
            {10, 4, 0, 33}, {10, 4, 15, 48}, {11, 4, 0, 49}, {11, 4, 14, 63}};
        for (int[] due : prefixBitsLength) {
            int length = due[3];
            Say say = Reading.copying(Reading.start(8, 8).noCache(), due[0], 1);
            int[] greens = new int[64];
            for (int i = 0; i < 64 - length; i++) {
                say.raw("1").word(i + 1, 7);
                greens[i] = i + 1;
            }
            Arrays.fill(greens, 64 - length, 64, 64 - length);
            Say copy = new Say().raw("0").number(due[2], due[1]);
            Say more = Reading.copyOf(say).raw("1").word(0, 7).raw(copy.text());
            Reading.good("a length of " + length, say.raw(copy.text()), Reading.greens(8, 8, greens));
            if (length > 1) {
                Reading.bad("a length of " + length + ", one more than there are to be", more);
            }
        }
    }

    /** Lengths of 64 and more are always too many, up to the longest that can be said. */
    private static void lengthsBeyondAllPictures() {
        int[][] prefixBitsNumber = {{11, 4, 15}, {12, 5, 0}, {13, 5, 31}, {22, 10, 0}, {23, 10, 1023}};
        for (int[] due : prefixBitsNumber) {
            Reading.bad("a length by prefix " + due[0],
                    Reading.copying(Reading.start(8, 8).noCache(), due[0], 1).raw("1").word(9, 7)
                            .raw("0").number(due[2], due[1]));
        }
    }

    /** "Bad when there is none, or more come than there are to be." */
    private static void copies() {
        // Distances of their own: k above 8, by prefix 6 for k = 9 .. 12.
        Say say = Reading.copying(Reading.start(4, 2).noCache(), 2, 6);
        say.raw("1").word(10, 7).raw("1").word(11, 7).raw("0").number(1, 2).raw("0").number(3, 2);
        Reading.good("copies at 2 and 4", say,
                Reading.greens(4, 2, 10, 11, 10, 11, 10, 11, 10, 11));
        Say one = Reading.copying(Reading.start(4, 1).noCache(), 2, 6).raw("1").word(3, 7);
        Reading.good("a copy of what it makes", Reading.copyOf(one).raw("0").number(0, 2),
                Reading.greens(4, 1, 3, 3, 3, 3));
        Reading.bad("one before the first", Reading.copyOf(one).raw("0").number(1, 2));
        Reading.bad("nothing stands before the first",
                Reading.copying(Reading.start(4, 1).noCache(), 2, 6).raw("0").number(0, 2));
        Reading.bad("more than there are to be",
                Reading.copying(Reading.start(3, 1).noCache(), 2, 6).raw("1").word(3, 7)
                        .raw("0").number(0, 2));
        Reading.good("no more is read behind the last pixel",
                Reading.copying(Reading.start(1, 1).noCache(), 2, 6).raw("1").word(3, 7),
                Reading.greens(1, 1, 3));
    }

    /** A length with all its bits comes before the symbol of D, and the bits for k behind that. */
    private static void lengthBeforeDistance() {
        // Greens 1, 2, 3 and the prefix 4, for lengths of 5 and 6, by two bits each. D has the
        // prefix 1 by 0, for a distance of 1, and the prefix 6 by 1, for distances of 1 to 4.
        Say codes = new Say().code(280, 1, 2, 2, 2, 3, 2, 260, 2).one(0).one(0).one(0).two(1, 6);
        Say five = Reading.start(8, 1).noCache().raw(codes.text()).raw("00 01");
        Reading.good("5 at distance 2", five.raw("11").number(0, 1).raw("1").number(1, 2).raw("10"),
                Reading.greens(8, 1, 1, 2, 1, 2, 1, 2, 1, 3));
        Say six = Reading.start(8, 1).noCache().raw(codes.text()).raw("00 01");
        Reading.good("6 at distance 1", six.raw("11").number(1, 1).raw("0"),
                Reading.greens(8, 1, 1, 2, 2, 2, 2, 2, 2, 2));
        Say both = Reading.start(8, 2).noCache().raw(codes.text()).raw("00 01 10 00");
        both.raw("11").number(1, 1).raw("1").number(2, 2).raw("11").number(0, 1).raw("1").number(3, 2);
        Reading.good("6 at distance 3, then 5 at distance 4", both.raw("01"), Reading.greens(8, 2, 1,
                2, 3, 1, 2, 3, 1, 2, 3, 1, 1, 2, 3, 1, 1, 2));
    }

    /** "The distance is k - 8 when k is above 8": each up to 63, and each one pixel too early. */
    private static void farDistances() {
        for (int distance = 1; distance <= 63; distance++) {
            // The number behind a prefix of e bits is 2^e or 3 * 2^e halves, and 1 more.
            int k = distance + 8;
            int e = 30 - Integer.numberOfLeadingZeros(k - 1);
            int prefix = 2 * e + 2 + (k - 1 >> e & 1);
            Say say = Reading.copying(Reading.start(8, 8).noCache(), 0, prefix);
            Say copy = new Say().raw("0").number(k - 1 & (1 << e) - 1, e);
            int[] greens = new int[64];
            for (int i = 0; i < 64; i++) {
                if (i == distance - 1) {
                    Reading.bad("distance " + distance + ", too early",
                            Reading.copyOf(say).raw(copy.text()));
                }
                greens[i] = i == distance ? 1 : i + 1;
                say.raw(i == distance ? copy.text() : new Say().raw("1").word(i + 1, 7).text());
            }
            Reading.good("distance " + distance, say, Reading.greens(8, 8, greens));
        }
        Reading.bad("the furthest that can be said",
                Reading.copying(Reading.start(8, 8).noCache(), 0, 39).raw("1").word(9, 7).raw("0")
                        .number((1 << 18) - 1, 18));
    }

    /** "For k = 1 .. 8, x + y * w, but at least 1", at each width. */
    private static void nearDistances() {
        int[][] near = {{0, 1}, {1, 0}, {1, 1}, {-1, 1}, {0, 2}, {2, 0}, {1, 2}, {-1, 2}};
        int[][] prefix = {{0, 0, 0}, {1, 0, 0}, {2, 0, 0}, {3, 0, 0}, {4, 0, 1}, {4, 1, 1}, {5, 0, 1},
            {5, 1, 1}};
        for (int w = 1; w <= 8; w++) {
            for (int k = 1; k <= 8; k++) {
                int distance = near[k - 1][0] + near[k - 1][1] * w;
                if (distance < 1) {
                    distance = 1;
                }
                Say say = Reading.copying(Reading.start(w, 8).noCache(), 0, prefix[k - 1][0]);
                Say copy = new Say().raw("0").number(prefix[k - 1][1], prefix[k - 1][2]);
                String what = "near distance " + k + " at width " + w;
                int[] greens = new int[w * 8];
                for (int i = 0; i < w * 8; i++) {
                    if (i == distance - 1) {
                        Reading.bad(what + ", too early", Reading.copyOf(say).raw(copy.text()));
                    }
                    boolean copied = i >= distance && (i == distance || i % 3 == 2);
                    greens[i] = copied ? greens[i - distance] : i;
                    say.raw(copied ? copy.text() : new Say().raw("1").word(i, 7).text());
                }
                Reading.good(what, say, Reading.greens(w, 8, greens));
            }
        }
    }

    /** In "x + y * w" w is the width of the image itself, which is not the picture's. */
    private static void distancesInImagesOfTransforms() {
        // Blocks of the picture are 2 by 2; k = 1 is 2 back. Blue becomes the block's green.
        Say blocks = Reading.copying(Say.picture(8, 8).transform(1).noCache(), 0, 0)
                .raw("1").word(5, 7).raw("1").word(6, 7).raw("0").raw("0");
        Reading.good("above, in an image of blocks", blocks.noMoreTransforms().plainImage(0x2000),
                "8x8" + (" 2005".repeat(4) + " 2006".repeat(4)).repeat(8));
        // The palette is 4 wide; k = 4, (-1, 1), is 3 back. Colours are 1, 3, 6, 7.
        Say palette = Reading.copying(Say.picture(2, 1).transform(3).number(3, 4).noCache(), 0, 3);
        palette.raw("1").word(1, 7).raw("1").word(2, 7);
        Reading.good("3 back, in a palette",
                Reading.copyOf(palette).raw("1").word(3, 7).raw("0").noMoreTransforms()
                        .plainImage(0xB00), "2x1 700 600");
        Reading.bad("3 back, in a palette, too early", palette.raw("0"));
        // 16 colours make 8 pixels 4 wide; k = 1 is 4 back.
        int[] colours = new int[16];
        Arrays.fill(colours, 1);
        Say packed = Say.picture(8, 2).transform(3).number(15, 4).literalImage(colours)
                .noMoreTransforms();
        Reading.copying(packed.noCache(), 0, 0);
        for (int i = 0; i < 4; i++) {
            packed.raw("1").word(i + 0x10, 7);
        }
        Reading.good("above, where a palette makes it less", packed.raw("0000"),
                "8x2" + " 1 2 2 2 3 2 4 2".repeat(2));
    }

    /** "A CACHE of 2, 4, 8 or 16 colours … otherwise none", and G has as many symbols more. */
    private static void cacheSizes() {
        for (int bits = 1; bits <= 4; bits++) {
            int m = 280 + (1 << bits);
            Say good = Reading.four(Reading.start(2, 1).cache(bits).code(m, m - 1, 5));
            Reading.good("the last colour of " + (1 << bits), good, "2x1 0 0");
            Reading.bad("no symbol behind it", Reading.four(Reading.start(2, 1).cache(bits)
                    .bySmall().manyZeros(138).manyZeros(138).fewZeros(4).length(1).manyZeros(11)
                    .fewZeros(10)));
        }
        Reading.bad("no cache, no symbol 280", Reading.four(Reading.start(1, 1).noCache().bySmall()
                .manyZeros(138).manyZeros(138).fewZeros(4).length(1)));
        Say blocks = Reading.four(Say.picture(5, 1).transform(0).cache(1)
                .code(282, 3, 1, 280, 1)).raw("1 1");
        Reading.good("an image of a transform may have a cache",
                blocks.noMoreTransforms().plainImage(0), "5x1" + " ff000000".repeat(5));
    }

    /** "At the highest 1 .. 4 bits of 0x1E35A7BD * pixel (32 bits)": each place of each cache. */
    private static void cachePlaces() {
        for (int bits = 1; bits <= 4; bits++) {
            int places = 1 << bits;
            boolean[] seen = new boolean[places];
            for (int i = 1; i <= 64; i++) {
                int pixel = i * 0x9E3779B1;
                String hex = Integer.toHexString(pixel);
                int at = Reading.place(pixel, bits);
                seen[at] = true;
                Reading.good(hex + " stands at " + at + " of " + places,
                        pixelThenCache(pixel, bits, at), "2x1 " + hex + " " + hex);
                Reading.good(hex + " stands nowhere else of " + places,
                        pixelThenCache(pixel, bits, (at + i % (places - 1) + 1) % places),
                        "2x1 " + hex + " 0");
            }
            for (boolean one : seen) {
                Check.isTrue("all places are tested", one);
            }
        }
    }

    private static Say pixelThenCache(int pixel, int bits, int at) {
        return Reading.start(2, 1).cache(bits)
                .code(280 + (1 << bits), pixel >> 8 & 255, 1, 280 + at, 1).one(pixel >> 16 & 255)
                .one(pixel & 255).one(pixel >>> 24).one(0).raw("0 1");
    }

    /** "At first all 0", in each image and in each stream anew. */
    private static void cacheIsEmptyAtFirst() {
        for (int bits = 1; bits <= 4; bits++) {
            int places = 1 << bits;
            for (int at = 0; at < places; at++) {
                Reading.good("colour " + at + " of " + places + " at first",
                        Reading.four(Reading.start(1, 1).cache(bits).code(280 + places, 280 + at, 1)),
                        "1x1 0");
            }
        }
        int symbol = 280 + Reading.place(0x700, 1);
        Say blocks = Reading.four(Say.picture(2, 1).transform(1).cache(1).one(7));
        Reading.good("not what an image before it had",
                Reading.four(blocks.noMoreTransforms().cache(1).code(282, symbol, 1)), "2x1 0 0");
        LosslessPixels x = new LosslessPixels();
        Reading.four(Reading.start(2, 1).cache(1).one(7)).readBy(x);
        Check.same("a cache that is filled", "2x1 700 700", Say.pictureOf(x));
        Reading.four(Reading.start(2, 1).cache(1).code(282, symbol, 1)).readBy(x);
        Check.same("not what a stream before it had", "2x1 0 0", Say.pictureOf(x));
        x.size(2, 1);
        x.set(0, 0, 0x700);
        x.write(false, false, -1, 1);
        Reading.four(Reading.start(2, 1).cache(1).code(282, symbol, 1)).readBy(x);
        Check.same("not what a picture had that was written", "2x1 0 0", Say.pictureOf(x));
    }

    /** "Each pixel that comes is put into the cache", by whatever it comes. */
    private static void pixelsArePutIntoTheCache() {
        int p = 0;
        int q = 0;
        for (int green = 1; green < 128; green++) {
            if (Reading.place(green * 256, 1) == 0) {
                q = p;
                p = green;
            }
        }
        // P at place 0; the colour 0 at place 1 is put at place 0 in its turn.
        Say cached = Reading.four(
                Reading.start(3, 1).cache(1).code(282, p, 1, 280, 2, 281, 2));
        Reading.good("a colour of the cache is put into it", cached.raw("0 11 10"),
                Reading.greens(3, 1, p, 0, 0));
        // Q, P at place 0; the copy puts Q there again.
        Say copied = Reading.start(4, 1).cache(1).code(282, q, 2, p, 2, 256, 2, 280, 2);
        copied.one(0).one(0).one(0).one(6);
        Reading.good("copied pixels are put into it", copied.raw("00 01 10").number(1, 2).raw("11"),
                Reading.greens(4, 1, q, p, q, q));
        Say later = Reading.four(Reading.start(3, 1).cache(1).code(282, q, 2, p, 2, 280, 1));
        Reading.good("the later one takes the place", later.raw("10 11 0"),
                Reading.greens(3, 1, q, p, p));
    }
}
