import java.util.Arrays;

/** Promise 10: streams made by hand, rule by rule, good ones and bad ones. */
public final class ReadTest {
    public static void main(String[] args) {
        heads();
        endsTooEarly();
        fewCodes();
        smallCodes();
        lengthRuns();
        wholeCodes();
        partsOfPixels();
        prefixes();
        copies();
        nearDistances();
        caches();
        cachedPixelsArePutAgain();
        foretellingModes();
        foretellingEdges();
        foretellingBlocks();
        parting();
        greens();
        palettes();
        paletteWidths();
        orders();
        Check.end();
    }

    private static void good(String what, Say say, String picture) {
        LosslessPixels x = new LosslessPixels();
        Check.same(what + ": bits", say.count(), say.readBy(x));
        Check.same(what, picture, Say.pictureOf(x));
        Check.same(what + ": the stream stays", (say.count() + 7) / 8, x.wipe());
    }

    private static void bad(String what, Say say) {
        LosslessPixels x = new LosslessPixels();
        x.size(2, 1);
        x.set(1, 0, 77);
        say.feedTo(x);
        // Bits enough behind what is wrong, so that it is not the end that makes the stream bad.
        for (int i = 0; i < 8; i++) {
            x.feed(0x55AA00FF1234L, 8);
        }
        String stream = Say.bitsOf(x, 5600);
        Check.bad(what, x::read);
        Check.same(what + ": the picture stays", "2x1 0 4d", Say.pictureOf(x));
        Check.same(what + ": the stream stays", stream, Say.bitsOf(x, 5600));
        Check.same(what + ": nothing was had", LosslessPixels.NONE, x.had(0));
    }

    private static Say start(int w, int h) {
        return Say.picture(w, h).noMoreTransforms();
    }

    private static Say copyOf(Say say) {
        return new Say().raw(say.text());
    }

    private static void heads() {
        good("a plain picture", start(3, 2).plainImage(0x04030201), "3x2" + " 4030201".repeat(6));
        good("as large as can be", start(8, 8).plainImage(-1), "8x8" + " ffffffff".repeat(64));
        for (int mark : new int[] {46, 0, 255, 111, 244}) {
            bad("mark " + mark, new Say().number(mark, 8).number(0, 7).plainImage(5));
        }
        Say behind = start(1, 2).plainImage(9);
        int count = behind.count();
        behind.raw("1110101101011100");
        LosslessPixels x = new LosslessPixels();
        Check.same("bits behind don't matter", count, behind.readBy(x));
        Check.same("nor do they for the picture", "1x2 9 9", Say.pictureOf(x));
        Check.same("read again", count, x.read());
    }

    private static void endsTooEarly() {
        Say whole = Say.picture(5, 5).transform(0).plainImage(0x700).transform(2)
                .noMoreTransforms().cache(2).two(1, 200).two(4, 5).two(9, 3).one(255).one(0);
        for (int i = 0; i < 25; i++) {
            whole.raw("101");
        }
        String bits = whole.text();
        LosslessPixels x = new LosslessPixels();
        whole.readBy(x);
        String picture = Say.pictureOf(x);
        for (int bytes = 0; bytes * 8 < bits.length(); bytes++) {
            LosslessPixels y = new LosslessPixels();
            Say.feed(bits.substring(0, bytes * 8), y);
            Check.bad("cut off to " + bytes + " bytes", y::read);
            Check.same("cut off: the picture stays", "1x1 0", Say.pictureOf(y));
            Say.feed(bits.substring(bytes * 8), y);
            Check.same("fed the rest", bits.length(), y.read());
            Check.same("fed the rest: the picture", picture, Say.pictureOf(y));
        }
    }

    /** The four other codes, behind one for G. */
    private static Say four(Say say) {
        return say.one(0).one(0).one(0).one(0);
    }

    private static void fewCodes() {
        good("one of one bit, 0", four(start(1, 1).noCache().raw("1 0 0 0")), "1x1 0");
        good("one of one bit, 1", four(start(1, 1).noCache().raw("1 0 0 1")), "1x1 100");
        good("one of 8 bits", four(start(1, 1).noCache().raw("1 0 1").number(200, 8)), "1x1 c800");
        good("two: the less has the word 0",
                four(start(2, 1).noCache().two(7, 200)).raw("01"), "2x1 700 c800");
        good("two, the greater first: the less has the word 0",
                four(start(2, 1).noCache().two(200, 7)).raw("01"), "2x1 700 c800");
        good("two, the first of one bit",
                four(start(2, 1).noCache().raw("1 1 0 1").number(0, 8)).raw("01"), "2x1 0 100");
        bad("two that are the same", four(start(2, 1).noCache().two(7, 7)));
        bad("two that are the same, of one bit",
                four(start(2, 1).noCache().raw("1 1 0 1").number(1, 8)));
        Say d = start(1, 1).noCache().one(1).one(2).one(3).one(4);
        good("39 is below 40", copyOf(d).one(39), "1x1 4020103");
        bad("40 is not", copyOf(d).one(40));
        bad("255 is not", copyOf(d).one(255));
        good("38 and 39", copyOf(d).two(38, 39), "1x1 4020103");
        bad("the first is not below", copyOf(d).two(40, 39));
        bad("the second is not below", copyOf(d).two(39, 40));
    }

    private static void smallCodes() {
        // Four lengths, for 17, 18, 0 and 1: the words are 0 for 18, 10 for 0 and 11 for 1.
        Say four = start(2, 1).noCache().number(0, 1).number(0, 4)
                .number(0, 3).number(1, 3).number(2, 3).number(2, 3);
        four.raw("10 11 10 11").raw("0").number(127, 7).raw("0").number(127, 7);
        good("q is 0", four(four).raw("10"), "2x1 300 100");
        // Five lengths, the fifth for 2, by which three symbols have lengths: 1, 2, 2.
        Say five = start(3, 1).noCache().number(0, 1).number(1, 4)
                .number(0, 3).number(2, 3).number(2, 3).number(2, 3).number(2, 3);
        // words: 0 has 00, 1 has 01, 2 has 10, 18 has 11
        five.raw("10 01 10").raw("11").number(127, 7).raw("11").number(127, 7).raw("00");
        good("q is 1", four(five).raw("10 0 11"), "3x1 0 100 200");
        bad("no symbol has a length", start(1, 1).noCache().small(new int[19]));
        bad("too few words", start(1, 1).noCache().one(0).small(Say.lengthsOf(8, 1, 9, 2)));
        bad("too many words",
                start(1, 1).noCache().one(0).small(Say.lengthsOf(8, 1, 9, 1, 10, 1)));
        bad("too many words by one of 7 bits",
                start(1, 1).noCache().one(0).small(Say.lengthsOf(8, 1, 9, 1, 10, 7)));
        for (int length = 1; length < 8; length++) {
            Say alone = start(1, 1).noCache().one(5).small(Say.lengthsOf(8, length));
            good("256 lengths of 8 by one symbol alone, by no bits",
                    alone.one(6).one(7).one(0).word(0x90, 8), "1x1 7900506");
        }
        bad("280 lengths of 8 by no bits", start(1, 1).noCache().small(Say.lengthsOf(8, 3)));
        bad("lengths of 0 by no bits", start(1, 1).noCache().small(Say.lengthsOf(0, 1)));
        Say runs = start(1, 1).noCache().one(5).small(Say.lengthsOf(16, 4));
        for (int i = 0; i < 42; i++) {
            runs.number(3, 2);
        }
        good("16 alone", runs.number(1, 2).one(6).one(7).one(0).word(0x91, 8), "1x1 7910506");
    }

    private static void lengthRuns() {
        Say g = start(1, 1).noCache().one(1);
        Say first = copyOf(g).bySmall();
        for (int i = 0; i < 42; i++) {
            first.again(6);
        }
        first.again(4).one(0).one(0).one(0).word(0xAB, 8);
        good("16 is 8 when there was none", first, "1x1 ab0100");
        Say zeros = copyOf(g).bySmall().fewZeros(3);
        for (int i = 0; i < 42; i++) {
            zeros.again(6);
        }
        zeros.length(7).length(7);
        bad("too few words", zeros.length(0));
        Say afterZeros = copyOf(g).bySmall().length(2).fewZeros(3).again(3)
                .manyZeros(138).manyZeros(111);
        good("16 is the latest that was not 0", afterZeros.one(0).one(0).one(0).raw("11"), "1x1 60100");
        Say afterAgain = copyOf(g).bySmall().length(4).again(6).length(0).again(5).again(4)
                .manyZeros(138).manyZeros(101);
        good("16 behind 16", afterAgain.one(0).one(0).one(0).raw("1111"), "1x1 100100");
        Say d = start(1, 1).noCache().one(1).one(2).one(3).one(4);
        good("18 up to m", copyOf(d).bySmall().length(1, 1).manyZeros(38), "1x1 4020103");
        bad("18 beyond m", copyOf(d).bySmall().length(1, 1).manyZeros(39));
        bad("18 far beyond m", copyOf(d).bySmall().length(1, 1).manyZeros(138));
        good("17 up to m", copyOf(d).bySmall().length(1, 1).manyZeros(30).fewZeros(8), "1x1 4020103");
        bad("17 beyond m", copyOf(d).bySmall().length(1, 1).manyZeros(30).fewZeros(9));
        good("16 up to m", copyOf(d).bySmall().manyZeros(36).length(2).again(3), "1x1 4020103");
        bad("16 beyond m", copyOf(d).bySmall().manyZeros(36).length(2).again(4));
        bad("16 just beyond m, of words that would be enough",
                copyOf(d).bySmall().manyZeros(37).length(2).again(3));
        Say most = start(1, 1).noCache().bySmall().length(1, 1).manyZeros(138).manyZeros(137);
        good("280 for G without a cache", four(copyOf(most).fewZeros(3)).raw("1"), "1x1 100");
        bad("281 for G without a cache", four(copyOf(most).fewZeros(4)).raw("1"));
        good("17 and 18 at their least and most",
                copyOf(g).bySmall().length(1).fewZeros(3).fewZeros(10).manyZeros(11).manyZeros(138)
                        .length(1).manyZeros(92).one(0).one(0).one(0).raw("1"), "1x1 a30100");
    }

    private static void wholeCodes() {
        Say mixed = start(4, 1).noCache().code(280, 5, 3, 6, 1, 9, 3, 250, 2);
        good("by length, then by symbol",
                four(mixed).raw("111 0 10 110"), "4x1 900 600 fa00 500");
        int[] deep = new int[32];
        for (int i = 0; i < 16; i++) {
            deep[2 * i] = 10 * i;
            deep[2 * i + 1] = i == 0 ? 15 : 16 - i;
        }
        Say longest = four(start(2, 1).noCache().code(280, deep));
        good("words of 15 bits", longest.raw("1".repeat(14) + "1").raw("1".repeat(14) + "0"),
                "2x1 a00 0");
        bad("too few words", four(start(1, 1).noCache().code(280, 3, 1, 4, 2)));
        bad("too few words, one of 15 bits not used",
                four(start(1, 1).noCache().code(280, 0, 1, 1, 2, 2, 3, 3, 4, 4, 5, 5, 6, 6, 7, 7, 8,
                        8, 9, 9, 10, 10, 11, 11, 12, 12, 13, 13, 14, 14, 15)));
        bad("too many words", four(start(1, 1).noCache().code(280, 3, 1, 4, 1, 5, 1)));
        bad("too many words, by one of 15 bits",
                four(start(1, 1).noCache().code(280, 3, 1, 4, 1, 5, 15)));
        bad("no symbol has a length", four(start(1, 1).noCache().code(280)));
        bad("a code that is not used must be good, too",
                start(1, 1).noCache().one(0).one(0).one(0).one(0).code(40, 0, 1, 1, 2));
        for (int length = 1; length <= 15; length++) {
            good("one symbol alone", four(start(2, 2).noCache().code(280, 255, length)),
                    "2x2" + " ff00".repeat(4));
        }
    }

    private static void partsOfPixels() {
        good("green, red, blue, alpha",
                start(2, 1).noCache().two(1, 2).two(3, 4).two(5, 6).two(7, 8).one(0)
                        .raw("0 1 1 1").raw("1 0 0 0"), "2x1 8040106 7030205");
        good("parts of 8 bits, highest first", start(2, 1).literalImage(0x80FE7F01, 0x12345678),
                "2x1 80fe7f01 12345678");
    }

    /** G has 0 .. 127 by a 1 and 7 bits and one prefix of a length by 0. */
    private static Say copying(Say say, int prefix, int distancePrefix) {
        int[] lengths = new int[2 * 129];
        for (int i = 0; i < 128; i++) {
            lengths[2 * i] = i;
            lengths[2 * i + 1] = 8;
        }
        lengths[256] = 256 + prefix;
        lengths[257] = 1;
        return say.code(280, lengths).one(0).one(0).one(0).one(distancePrefix);
    }

    private static String greens(int w, int h, int... greens) {
        StringBuilder text = new StringBuilder(w + "x" + h);
        for (int green : greens) {
            text.append(' ').append(Integer.toHexString(green * 256));
        }
        return text.toString();
    }

    private static void prefixes() {
        // Each prefix of a length with the bits behind it that make it just fit into 8 by 8.
        int[][] due = {{0, 0, 0, 1}, {1, 0, 0, 2}, {2, 0, 0, 3}, {3, 0, 0, 4}, {4, 1, 1, 6},
            {5, 1, 0, 7}, {6, 2, 3, 12}, {7, 2, 0, 13}, {8, 3, 5, 22}, {9, 3, 7, 32}, {10, 4, 0, 33},
            {11, 4, 14, 63}};
        for (int[] d : due) {
            Say say = copying(start(8, 8).noCache(), d[0], 1);
            int[] greens = new int[64];
            for (int i = 0; i < 64 - d[3]; i++) {
                say.raw("1").word(i + 1, 7);
                greens[i] = i + 1;
            }
            say.raw("0").number(d[2], d[1]);
            for (int i = 64 - d[3]; i < 64; i++) {
                greens[i] = greens[i - 1];
            }
            good("length by prefix " + d[0], say, greens(8, 8, greens));
            if (d[3] == 1) {
                continue;
            }
            Say more = copying(start(8, 8).noCache(), d[0], 1);
            for (int i = 0; i < 65 - d[3]; i++) {
                more.raw("1").word(i + 1, 7);
            }
            bad("length by prefix " + d[0] + ", one too many", more.raw("0").number(d[2], d[1]));
        }
        bad("the longest copy", copying(start(8, 8).noCache(), 23, 1).raw("11111111").raw("0")
                .number(1023, 10));
        bad("the furthest distance", copying(start(8, 8).noCache(), 0, 39).raw("11111111").raw("0")
                .number((1 << 18) - 1, 18));
    }

    private static void copies() {
        // Distances of their own: k above 8, by prefix 6 for k = 9 .. 12.
        Say say = copying(start(4, 2).noCache(), 2, 6);
        say.raw("1").word(10, 7).raw("1").word(11, 7).raw("0").number(1, 2);
        say.raw("0").number(3, 2);
        good("copies at 2 and 4", say, greens(4, 2, 10, 11, 10, 11, 10, 11, 10, 11));
        Say itself = copying(start(4, 1).noCache(), 2, 6).raw("1").word(3, 7).raw("0").number(0, 2);
        good("a copy of what it makes", itself, greens(4, 1, 3, 3, 3, 3));
        bad("nothing stands before the first",
                copying(start(4, 1).noCache(), 2, 6).raw("0").number(0, 2));
        bad("one before the first",
                copying(start(4, 1).noCache(), 2, 6).raw("1").word(3, 7).raw("0").number(1, 2));
        good("the first itself", copying(start(5, 1).noCache(), 2, 6).raw("1").word(3, 7).raw("1")
                .word(4, 7).raw("0").number(1, 2), greens(5, 1, 3, 4, 3, 4, 3));
        bad("more than there are to be", copying(start(3, 1).noCache(), 2, 6).raw("1").word(3, 7)
                .raw("0").number(0, 2));
    }

    private static void nearDistances() {
        int[][] near = {{0, 1}, {1, 0}, {1, 1}, {-1, 1}, {0, 2}, {2, 0}, {1, 2}, {-1, 2}};
        int[][] prefix = {{0, 0, 0}, {1, 0, 0}, {2, 0, 0}, {3, 0, 0}, {4, 0, 1}, {4, 1, 1}, {5, 0, 1},
            {5, 1, 1}};
        for (int w = 1; w <= 8; w++) {
            for (int k = 1; k <= 8; k++) {
                int distance = near[k - 1][0] + near[k - 1][1] * w;
                if (distance < 1) {
                    distance = 1;
                }
                Say say = copying(start(w, 8).noCache(), 0, prefix[k - 1][0]);
                Say early = copyOf(say);
                int[] greens = new int[w * 8];
                for (int i = 0; i < w * 8; i++) {
                    boolean copied = i >= distance && i % 3 == 2;
                    greens[i] = copied ? greens[i - distance] : i;
                    if (copied) {
                        say.raw("0").number(prefix[k - 1][1], prefix[k - 1][2]);
                    } else {
                        say.raw("1").word(i, 7);
                    }
                }
                good("near distance " + k + " at width " + w, say, greens(w, 8, greens));
                for (int i = 0; i < distance - 1; i++) {
                    early.raw("1").word(i, 7);
                }
                bad("near distance " + k + " at width " + w + ", too early",
                        early.raw("0").number(prefix[k - 1][1], prefix[k - 1][2]));
            }
        }
    }

    private static int place(int pixel, int bits) {
        return (int) ((0x1E35A7BDL * (pixel & 0xFFFFFFFFL) & 0xFFFFFFFFL) >> 32 - bits);
    }

    private static void caches() {
        for (int bits = 1; bits <= 4; bits++) {
            int pixel = 0x01020304;
            int at = 280 + place(pixel, bits);
            int last = 280 + (1 << bits) - 1;
            Say say = start(3, 1).cache(bits).code(280 + (1 << bits), 3, 1, at, 1);
            say.one(2).one(4).one(1).one(0);
            good("a colour of the cache of " + bits + " bits", say.raw("0 1 1"),
                    "3x1" + " 1020304".repeat(3));
            Say empty = start(2, 1).cache(bits).code(280 + (1 << bits), last, 5);
            good("colours at first all 0", four(empty), "2x1 0 0");
            bad("no colour behind the last",
                    start(1, 1).cache(bits).bySmall().manyZeros(138).manyZeros(138).fewZeros(4)
                            .length(4).fewZeros(3).manyZeros(16));
        }
        bad("no cache, no symbol 280", start(1, 1).noCache().bySmall().manyZeros(138)
                .manyZeros(138).fewZeros(5));
        Say modes = Say.picture(5, 1).transform(0).cache(1).code(282, 3, 1, 280, 1)
                .one(0).one(0).one(0).one(0).raw("1 1");
        good("an image of modes may have a cache", modes.noMoreTransforms().plainImage(0),
                "5x1" + " ff000000".repeat(5));
    }

    private static void cachedPixelsArePutAgain() {
        int p = 0;
        int q = 0;
        for (int green = 1; green < 128; green++) {
            if (place(green * 256, 1) == 0) {
                q = p;
                p = green;
            }
        }
        // P at place 0; the colour 0 at place 1 is put at place 0 in its turn.
        Say say = start(3, 1).cache(1).code(282, p, 1, 280, 2, 281, 2).one(0).one(0).one(0).one(0);
        good("a colour of the cache is put into it", say.raw("0 11 10"), greens(3, 1, p, 0, 0));
        // Q, P at place 0; the copy puts Q there again.
        Say copied = start(4, 1).cache(1).code(282, q, 2, p, 2, 256, 2, 280, 2);
        copied.one(0).one(0).one(0).one(6);
        good("copied pixels are put into it", copied.raw("00 01 10").number(1, 2).raw("11"),
                greens(4, 1, q, p, q, q));
        // Each colour is put at the highest bits, so the later of two takes the other's place.
        Say later = start(3, 1).cache(1).code(282, q, 2, p, 2, 280, 1).one(0).one(0).one(0).one(0);
        good("the later one takes the place", later.raw("10 11 0"), greens(3, 1, q, p, p));
    }

    private static final int TL = 0xF00A6405;
    private static final int T = 0xFF01C80A;
    private static final int TR = 0x10FF1480;
    private static final int L = 0xE8033C00;

    private static int minus(int a, int b) {
        return Reference.join(Reference.minus(Reference.split(a), Reference.split(b)));
    }

    /** TL, T, TR; L and two pixels that are just as foretold. */
    private static Say foretelling(int modePixel, int tl, int t, int tr, int l) {
        return Say.picture(3, 2).transform(0).plainImage(modePixel).noMoreTransforms().literalImage(
                minus(tl, 0xFF000000), minus(t, tl), minus(tr, t), minus(l, tl), 0, 0);
    }

    private static void foretellingModes() {
        String[] due = {
            "ff000000 ff000000", "e8033c00 e8033c00", "ff01c80a 10ff1480", "10ff1480 e8033c00",
            "f00a6405 ff01c80a", "bd417825 71903749", "ec065002 f5038c06", "f3028205 81804b42",
            "f7059607 87806e45", "87806e45 7c812840", "b9435f23 ac515d2b", "ff01c80a 10ff1480",
            "f700a005 8fe007b", "f4009105 44be175e", "ff000000 ff000000", "ff000000 ff000000",
        };
        for (int mode = 0; mode < 16; mode++) {
            String picture = "3x2 f00a6405 ff01c80a 10ff1480 e8033c00 " + due[mode];
            good("mode " + mode, foretelling(mode << 8, TL, T, TR, L), picture);
            good("mode " + mode + " modulo 16",
                    foretelling(0x12EE00FF | 0x10 + mode << 8, TL, T, TR, L), picture);
            good("mode " + mode + " and 0xF0", foretelling(0xF0 + mode << 8, TL, T, TR, L), picture);
        }
    }

    /** The pixel that is foretold by a mode, of L, T and TL. */
    private static void foretold(int mode, int l, int t, int tl, int due) {
        LosslessPixels x = new LosslessPixels();
        foretelling(mode << 8, tl, t, 0, l).readBy(x);
        Check.same("mode " + mode + " of " + Integer.toHexString(l) + " " + Integer.toHexString(t)
                + " " + Integer.toHexString(tl), due, x.pixel(1, 1));
    }

    private static void foretellingEdges() {
        foretold(11, 0x00000005, 0x00000007, 0x00000006, 7);
        foretold(11, 0x00000001, 0x00000009, 0x00000008, 1);
        foretold(11, 0x00000009, 0x00000001, 0x00000008, 1);
        foretold(11, 0x00000009, 0x00000008, 0x00000008, 9);
        foretold(11, 0x05000000, 0x07000000, 0x07000000, 0x05000000);
        foretold(11, 0x000000FF, 0x0000FF00, 0x000000FF, 0x0000FF00);
        foretold(11, 0x010000FF, 0x0000FF00, 0x0000FF00, 0x010000FF);
        foretold(11, 0x00FF0000, 0x00FE0000, 0x00010000, 0x00FF0000);
        foretold(12, 0xFF00FF80, 0x0100FF80, 0x00FF0000, 0xFF00FFFF);
        foretold(12, 0x10203040, 0x01020304, 0x00010203, 0x11213141);
        // A is 5, TL 8: -3 / 2 is cut to -1; A is 8, TL 5: 3 / 2 is cut to 1.
        foretold(13, 0x00000005, 0x00000006, 0x00000008, 0x00000004);
        foretold(13, 0x00000008, 0x00000009, 0x00000005, 0x00000009);
        foretold(13, 0xFF000001, 0xFF000001, 0x0000FF05, 0xFF000000);
        foretold(13, 0xF0000000, 0xF1000000, 0x80FFFFFF, 0xFF000000);
        good("the first row by the left, the first column by above, whatever the mode",
                Say.picture(2, 2).transform(0).plainImage(0x400).noMoreTransforms()
                        .literalImage(0x01010101, 0x02020202, 0x03030303, 0x04040404),
                "2x2 10101 2030303 3040404 4050505");
        good("one column", Say.picture(1, 3).transform(0).plainImage(0x300).noMoreTransforms()
                .literalImage(0x01010101, 0x02020202, 0xFF000001), "1x3 10101 2030303 1030304");
    }

    private static void foretellingBlocks() {
        int[] said = new int[25];
        for (int i = 0; i < 5; i++) {
            said[i] = i == 0 ? 0x01000001 : 1;
            said[5 * i] = i == 0 ? 0x01000001 : 0x10;
        }
        // Blocks by rows: 1 (L), 2 (T); 4 (TL), 3 (TR, the row's first one here).
        Say say = Say.picture(5, 5).transform(0).literalImage(0x100, 0x200, 0x400, 0x300)
                .noMoreTransforms().literalImage(said);
        good("blocks of 4 by 4", say, "5x5 1 2 3 4 5 11 11 11 11 5 21 21 21 21 5 31 31 31 31 5"
                + " 41 31 31 31 41");
    }

    private static Say parting(int block, int pixel) {
        return Say.picture(1, 1).transform(1).literalImage(block).noMoreTransforms()
                .literalImage(pixel);
    }

    private static void parting() {
        good("red by b and green", parting(0x00000020, 0x04030201), "1x1 4050201");
        good("blue by g and green", parting(0x00002000, 0x04030201), "1x1 4030203");
        good("blue by r and red", parting(0x00200000, 0x04030201), "1x1 4030204");
        good("blue by r and the new red", parting(0x00200020, 0x04030201), "1x1 4050206");
        good("alpha of the block is nothing", parting(0xFF000000, 0x04030201), "1x1 4030201");
        good("rounded down below 0", parting(0x00000001, 0x0003FF01), "1x1 2ff01");
        good("rounded down above 0", parting(0x0000001F, 0x00030101), "1x1 30101");
        good("-128 by -128 is 512", parting(0x00008080, 0x00038001), "1x1 38001");
        good("-128 by 127 is -508", parting(0x00008000, 0x00007F01), "1x1 7f05");
        good("the new red with sign", parting(0x00400020, 0x007F0100), "1x1 800100");
        good("127 by the new red of -128 is -508", parting(0x007F0020, 0x007F0100), "1x1 800104");
        good("red modulo 256", parting(0x00000040, 0x00FF7F00), "1x1 fd7f00");
        int[] said = new int[10];
        Arrays.fill(said, 0x00000100);
        good("by blocks", Say.picture(5, 2).transform(1).literalImage(0x20, 0x2000)
                .noMoreTransforms().literalImage(said),
                "5x2" + (" 10100".repeat(4) + " 101").repeat(2));
    }

    private static void greens() {
        good("green is put on red and blue", Say.picture(3, 1).transform(2).noMoreTransforms()
                .literalImage(0x04030201, 0xFFFF01FF, 0x0001FF02), "3x1 4050203 ff000100 ff01");
    }

    private static Say palette(int w, int h, int... differences) {
        return Say.picture(w, h).transform(3).number(differences.length - 1, 4)
                .literalImage(differences);
    }

    private static void palettes() {
        good("one colour, and numbers above", palette(8, 1, 0x01020304).noMoreTransforms()
                .literalImage(0x1234A078),
                "8x1" + " 1020304".repeat(5) + " 0 1020304 0");
        good("two colours, the lowest bit first", palette(8, 1, 0x01020304, 0xFF010101)
                .noMoreTransforms().literalImage(0x000500),
                "8x1 30405 1020304 30405" + " 1020304".repeat(5));
        good("three colours by two bits", palette(4, 1, 1, 1, 1).noMoreTransforms()
                .literalImage(0b11100100 << 8), "4x1 1 2 3 0");
        good("four colours by two bits", palette(4, 1, 1, 1, 1, 1).noMoreTransforms()
                .literalImage(0b00011011 << 8), "4x1 4 3 2 1");
        good("five colours by four bits", palette(4, 1, 1, 1, 1, 1, 0x10000000).noMoreTransforms()
                .literalImage(0x5400, 0x0100), "4x1 10000004 0 2 1");
        int[] sixteen = new int[16];
        Arrays.fill(sixteen, 0x01000001);
        good("sixteen colours", palette(2, 1, sixteen).noMoreTransforms().literalImage(0xF700),
                "2x1 8000008 10000010");
        good("differences part by part, modulo 256", palette(2, 1, 0x80FF80FF, 0x80018001)
                .noMoreTransforms().literalImage(0x200), "2x1 80ff80ff 0");
    }

    private static void paletteWidths() {
        int[][] due = {{2, 8}, {3, 4}, {4, 4}, {5, 2}, {16, 2}, {1, 8}};
        for (int[] d : due) {
            for (int w = 1; w <= 8; w++) {
                int packed = (w + d[1] - 1) / d[1];
                int[] colours = new int[d[0]];
                colours[0] = 9;
                int[] said = new int[packed * 3];
                StringBuilder text = new StringBuilder(w + "x3");
                for (int y = 0; y < 3; y++) {
                    // The highest number in each packed pixel of row y, for its pixel y alone.
                    for (int x = 0; x < packed; x++) {
                        said[y * packed + x] = (1 << 8 / d[1]) - 1 << 8 + 8 / d[1] * (y % d[1]);
                    }
                    for (int x = 0; x < w; x++) {
                        boolean highest = x % d[1] == y % d[1];
                        int n = 1 << 8 / d[1];
                        text.append(' ').append(highest && d[0] < n ? 0 : 9);
                    }
                }
                good(d[0] + " colours at width " + w,
                        palette(w, 3, colours).noMoreTransforms().literalImage(said), text.toString());
            }
        }
    }

    private static void orders() {
        for (int kind = 0; kind < 4; kind++) {
            Say twice = Say.picture(2, 2);
            for (int i = 0; i < 2; i++) {
                twice.transform(kind);
                if (kind == 3) {
                    twice.number(0, 4);
                }
                if (kind != 2) {
                    twice.plainImage(0);
                }
            }
            bad("kind " + kind + " twice", twice.noMoreTransforms().plainImage(0));
        }
        Say all = Say.picture(2, 1).transform(2).transform(1).plainImage(0x20).transform(0)
                .plainImage(0).transform(3).number(1, 4).literalImage(0x00000100, 0x00000100);
        // By the palette 0x100, 0x200; foretold 0xFF000100, 0xFF000300; then red by b, then green.
        good("all four, the latest undone first",
                copyOf(all).noMoreTransforms().literalImage(0x200), "2x1 ff020101 ff060303");
        bad("a fifth", copyOf(all).transform(2).noMoreTransforms().literalImage(0x200));
        Say greenLast = Say.picture(2, 1).transform(0).plainImage(0).transform(2)
                .noMoreTransforms().literalImage(0x100, 0x100);
        good("green undone, then foretold", greenLast, "2x1 ff010101 ff020202");
        // A palette first makes the image of modes less: one block for 8 pixels, not two.
        Say less = Say.picture(8, 1).transform(3).number(1, 4).literalImage(1, 1).transform(0)
                .literalImage(0).noMoreTransforms().literalImage(0x5500);
        good("a palette makes blocks less", less, "8x1" + " 2 1".repeat(4));
        Say full = Say.picture(8, 1).transform(0).literalImage(0, 0).transform(3).number(1, 4)
                .literalImage(1, 1).noMoreTransforms().literalImage(0x0100);
        good("but only those behind it", full,
                "8x1 ff000002 ff000003 ff000004 ff000005 ff000006 ff000007 ff000008 ff000009");
    }
}
