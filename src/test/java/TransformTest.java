import java.util.Arrays;

/** Promise 10: the four transforms of a stream, and how each is undone. */
public final class TransformTest {
    private static final int TL = 0xF00A6405;
    private static final int T = 0xFF01C80A;
    private static final int TR = 0x10FF1480;
    private static final int L = 0xE8033C00;

    public static void main(String[] args) {
        foretoldByEachMode();
        modeModulo16();
        firstRowAndColumn();
        sumsModulo256();
        averages();
        nearerOfTwo();
        slopes();
        halfSlopes();
        behindTheRowAbove();
        blocksOfModes();
        blocksOfParts();
        parting();
        partingBySign();
        greens();
        palettes();
        palettesOfEachSize();
        palettesStandAlone();
        palettesAndBlocks();
        Check.end();
    }

    private static int plus(int a, int b) {
        int even = (a & 0x00FF00FF) + (b & 0x00FF00FF) & 0x00FF00FF;
        int odd = (a & 0xFF00FF00) + (b & 0xFF00FF00) & 0xFF00FF00;
        return even | odd;
    }

    private static int minus(int a, int b) {
        return plus(a, plus(~b, 0x01010101));
    }

    /** TL, T, TR; L and two pixels that are just as foretold. */
    private static Say foretelling(int modePixel, int l, int t, int tl, int tr) {
        return Say.picture(3, 2).transform(0).plainImage(modePixel).noMoreTransforms().literalImage(
                minus(tl, 0xFF000000), minus(t, tl), minus(tr, t), minus(l, tl), 0, 0);
    }

    /** What the middle one of the second row is foretold to be, of these. */
    private static void foretold(int due, int mode, int l, int t, int tl, int tr) {
        LosslessPixels x = new LosslessPixels();
        foretelling(mode << 8, l, t, tl, tr).readBy(x);
        Check.same("mode " + mode + " of " + Reading.picture(1, 4, l, t, tl, tr),
                Integer.toHexString(due), Integer.toHexString(x.pixel(1, 1)));
    }

    private static final String[] BY_MODE = {
        "ff000000 ff000000", "e8033c00 e8033c00", "ff01c80a 10ff1480", "10ff1480 e8033c00",
        "f00a6405 ff01c80a", "bd417825 71903749", "ec065002 f5038c06", "f3028205 81804b42",
        "f7059607 87806e45", "87806e45 7c812840", "b9435f23 ac515d2b", "ff01c80a 10ff1480",
        "f700a005 8fe007b", "f4009105 44be175e", "ff000000 ff000000", "ff000000 ff000000",
    };

    private static void foretoldByEachMode() {
        for (int mode = 0; mode < 16; mode++) {
            Reading.good("mode " + mode, foretelling(mode << 8, L, T, TL, TR),
                    "3x2 f00a6405 ff01c80a 10ff1480 e8033c00 " + BY_MODE[mode]);
        }
    }

    /** "The MODE of a block is the green of its pixel modulo 16"; its other parts are nothing. */
    private static void modeModulo16() {
        for (int green = 16; green < 256; green++) {
            Reading.good("mode " + green + " modulo 16",
                    foretelling(0x12EE00F3 | green << 8, L, T, TL, TR),
                    "3x2 f00a6405 ff01c80a 10ff1480 e8033c00 " + BY_MODE[green % 16]);
        }
    }

    /** "For the first pixel of all 0xFF000000, for others in the first row …", whatever the mode. */
    private static void firstRowAndColumn() {
        for (int mode = 0; mode < 16; mode++) {
            LosslessPixels x = new LosslessPixels();
            int[] said = new int[64];
            Arrays.fill(said, 0x01020304);
            Say.picture(8, 8).transform(0).plainImage(mode << 8).noMoreTransforms()
                    .literalImage(said).readBy(x);
            int due = 0xFF000000;
            for (int i = 0; i < 8; i++) {
                due = plus(due, 0x01020304);
                Check.same("mode " + mode + ", first row, " + i, due, x.pixel(i, 0));
                Check.same("mode " + mode + ", first column, " + i, due, x.pixel(0, i));
            }
        }
        Reading.good("one column", Say.picture(1, 3).transform(0).plainImage(0x300)
                .noMoreTransforms().literalImage(0x01010101, 0x02020202, 0xFF000001),
                "1x3 10101 2030303 1030304");
        Reading.good("one row", Say.picture(3, 1).transform(0).plainImage(0x200)
                .noMoreTransforms().literalImage(0x01010101, 0x02020202, 0xFF000001),
                "3x1 10101 2030303 1030304");
    }

    /** "Sums … of pixels are taken part by part, each modulo 256": none is carried over. */
    private static void sumsModulo256() {
        Say row = Say.picture(5, 1).transform(0).plainImage(0).noMoreTransforms();
        Reading.good("by the left", row.literalImage(0x02FFFFFF, 0x00000001, 0x00000100, 0x00010000,
                0xFF000000), "5x1 1ffffff 1ffff00 1ff0000 1000000 0");
        int[] said = {0x01010101, 0xFFFFFFFF, 0x01010101, 0xFF800180};
        Reading.good("by the mode", Say.picture(2, 2).transform(0).plainImage(0x200)
                .noMoreTransforms().literalImage(said), "2x2 10101 ff000000 1020202 fe800180");
    }

    /** "AV is for each part half the sum, rounded down." */
    private static void averages() {
        foretold(0xFFFEFE00, 7, 0xFFFFFE00, 0xFFFEFF01, 0x12345678, 0x11111111);
        foretold(0x00000000, 7, 0x01010101, 0x00000000, 0x12345678, 0x11111111);
        foretold(0x7F7F7F80, 7, 0xFF00FE01, 0x00FF00FF, 0x12345678, 0x11111111);
        foretold(0x7F7F7F80, 6, 0xFF00FE01, 0x12345678, 0x00FF00FF, 0x11111111);
        foretold(0x7F7F7F80, 8, 0x12345678, 0xFF00FE01, 0x00FF00FF, 0x11111111);
        foretold(0x7F7F7F80, 9, 0x12345678, 0xFF00FE01, 0x11111111, 0x00FF00FF);
        // AV(3, 0) is 1, AV(1, 1) is 1, but AV(2, 1) is 1 and AV(1, 0) is 0.
        foretold(0x01010101, 5, 0x03030303, 0x01010101, 0x77777777, 0x00000000);
        foretold(0x00000000, 5, 0x01010101, 0x01010101, 0x77777777, 0x00000000);
        foretold(0xFFFFFFFF, 5, 0xFFFFFFFF, 0xFFFFFFFF, 0x00000000, 0xFFFFFFFF);
        // Rounded down twice: AV(AV(3, 0), AV(1, 0)) is AV(1, 0).
        foretold(0x00000000, 10, 0x03030303, 0x01010101, 0x00000000, 0x00000000);
        foretold(0x01010101, 10, 0x04040404, 0x01010101, 0x00000000, 0x00000000);
        foretold(0xFFFFFFFF, 10, 0xFFFFFFFF, 0xFFFFFFFF, 0xFFFFFFFF, 0xFFFFFFFF);
    }

    /** "L when the first is the less, otherwise T": p "not modulo anything", over all parts. */
    private static void nearerOfTwo() {
        // |p - L| is |T - TL|, and |p - T| is |L - TL|.
        foretold(0x07000007, 11, 0x05000005, 0x07000007, 0x06000006, 0);
        foretold(0x00000009, 11, 0x00000007, 0x00000009, 0x00000008, 0);
        foretold(0x00000001, 11, 0x00000001, 0x00000009, 0x00000008, 0);
        foretold(0x00000001, 11, 0x00000009, 0x00000001, 0x00000008, 0);
        for (int shift = 0; shift < 32; shift += 8) {
            foretold(5 << shift, 11, 5 << shift, 7 << shift, 7 << shift, 0);
            foretold(5 << shift, 11, 7 << shift, 5 << shift, 7 << shift, 0);
            foretold(0xFF << shift, 11, 0xFF << shift, 0xFE << shift, 1 << shift, 0);
            foretold(0xFF << shift, 11, 0xFE << shift, 0xFF << shift, 1 << shift, 0);
            foretold(0, 11, 0, 1 << shift, 0xFF << shift, 0);
        }
        // All parts together: L is 100 off, T is 99, 100 and 101.
        foretold(0x0A141E28, 11, 0x0A141E28, 0x19191918, 0, 0);
        foretold(0x19191919, 11, 0x0A141E28, 0x19191919, 0, 0);
        foretold(0x281E140B, 11, 0x0A141E28, 0x281E140B, 0, 0);
        foretold(0x0000FF00, 11, 0x000000FF, 0x0000FF00, 0x000000FF, 0);
        foretold(0x010000FF, 11, 0x010000FF, 0x0000FF00, 0x0000FF00, 0);
        foretold(0x000100FE, 11, 0x000100FE, 0x00FF0000, 0x00FF0000, 0);
    }

    /** "L + T - TL, but 0 when that is below and 255 when it is above." */
    private static void slopes() {
        foretold(0x00000000, 12, 0x01020304, 0x01020304, 0x03050709, 0);
        foretold(0x00000000, 12, 0x01020304, 0x01020304, 0x02040608, 0);
        foretold(0x01010101, 12, 0x01020304, 0x01020304, 0x01030507, 0);
        foretold(0xFEFEFEFE, 12, 0x80808080, 0x80808080, 0x02020202, 0);
        foretold(0xFFFFFFFF, 12, 0x80808080, 0x80808080, 0x01010101, 0);
        foretold(0xFFFFFFFF, 12, 0x80808080, 0x80808080, 0x00000000, 0);
        foretold(0xFF00FFFF, 12, 0xFF00FF80, 0x0100FF80, 0x00FF0000, 0);
        foretold(0x00000000, 12, 0x00000000, 0x00000000, 0xFFFFFFFF, 0);
        foretold(0xFFFFFFFF, 12, 0xFFFFFFFF, 0xFFFFFFFF, 0x00000000, 0);
        foretold(0x11213141, 12, 0x10203040, 0x01020304, 0x00010203, 0);
    }

    /** "A + (A - TL) / 2, the half cut towards 0, likewise between 0 and 255." */
    private static void halfSlopes() {
        // A is 5 in each part; TL is 5, 6, 7, 8: halves of 0, -1, -2, -3.
        foretold(0x05050404, 13, 0x05050505, 0x06060606, 0x05060708, 0);
        // A is 8 in each part; TL is 8, 7, 6, 5: halves of 0, 1, 2, 3.
        foretold(0x08080909, 13, 0x08080808, 0x09090909, 0x08070605, 0);
        // A is 1: TL of 3 and 4 give 0, 5 gives -1, 255 much less.
        foretold(0x00000000, 13, 0x01010101, 0x01010101, 0x030405FF, 0);
        // A is 254: TL of 253 and 252 give 254 and 255, 250 gives 256, 0 much more.
        foretold(0xFEFFFFFF, 13, 0xFEFEFEFE, 0xFEFEFEFE, 0xFDFCFA00, 0);
        foretold(0xFF000000, 13, 0xF0000000, 0xF1000000, 0x80FFFFFF, 0);
    }

    /** "TR the one behind T in the row above (behind its last one the first of the pixel's own row)." */
    private static void behindTheRowAbove() {
        for (int w = 2; w <= 8; w++) {
            int[] said = new int[3 * w];
            int[] due = new int[3 * w];
            for (int i = 0; i < 3 * w; i++) {
                int x = i % w;
                said[i] = 0x00010203 * (i + 1);
                int byTr = x < w - 1 ? i - w + 1 : i - x;
                int from = i < w ? i - 1 : x == 0 ? i - w : byTr;
                due[i] = plus(said[i], i == 0 ? 0xFF000000 : due[from]);
            }
            Reading.good("TR at width " + w, Say.picture(w, 3).transform(0).plainImage(0x300)
                    .noMoreTransforms().literalImage(said), Reading.picture(w, 3, due));
        }
    }

    /** "As wide and high as there are blocks of w and h … (cut off at the edges)." */
    private static void blocksOfModes() {
        int[] modes = {0x100, 0x200, 0x400, 0x000};
        for (int w = 1; w <= 8; w++) {
            for (int h = 1; h <= 8; h++) {
                int[] said = new int[w * h];
                int[] due = new int[w * h];
                for (int i = 0; i < w * h; i++) {
                    said[i] = 0x01030507 * i + 0x01020304;
                    due[i] = plus(said[i], before(due, i % w, i / w, w));
                }
                Reading.good("modes of " + w + " by " + h, Say.picture(w, h).transform(0)
                        .literalImage(blocks(modes, w, h)).noMoreTransforms().literalImage(said),
                        Reading.picture(w, h, due));
            }
        }
    }

    /** By the left in the first block, by T and TL in the next ones, 0xFF000000 in the last. */
    private static int before(int[] due, int x, int y, int w) {
        int i = y * w + x;
        if (i == 0) {
            return 0xFF000000;
        }
        if (y == 0 || x > 0 && x < 4 && y < 4) {
            return due[i - 1];
        }
        if (x == 0 || y < 4) {
            return due[i - w];
        }
        return x < 4 ? due[i - w - 1] : 0xFF000000;
    }

    /** Of four pixels those that a picture of this size has blocks for. */
    private static int[] blocks(int[] four, int w, int h) {
        int[] some = w > 4 ? four : new int[] {four[0], four[2]};
        return Arrays.copyOf(some, (w > 4 ? 2 : 1) * (h > 4 ? 2 : 1));
    }

    /** "1 PART: an image as for 0." */
    private static void blocksOfParts() {
        // Green 1 by a b of 32, 64, 96 and -32 is 1, 2, 3 and -1.
        int[] parts = {0x20, 0x40, 0x60, 0xE0};
        int[] reds = {0x010100, 0x020100, 0x030100, 0xFF0100};
        for (int w = 1; w <= 8; w++) {
            for (int h = 1; h <= 8; h++) {
                int[] due = new int[w * h];
                for (int i = 0; i < w * h; i++) {
                    due[i] = reds[(i % w < 4 ? 0 : 1) + (i / w < 4 ? 0 : 2)];
                }
                Reading.good("parts of " + w + " by " + h, Say.picture(w, h).transform(1)
                        .literalImage(blocks(parts, w, h)).noMoreTransforms().plainImage(0x100),
                        Reading.picture(w, h, due));
            }
        }
    }

    private static void parting(String what, int block, int pixel, String due) {
        Reading.good(what, Say.picture(1, 1).transform(1).literalImage(block).noMoreTransforms()
                .literalImage(pixel), "1x1 " + due);
    }

    /** "Red + DELTA(b, green); then … blue + DELTA(g, green) + DELTA(r, the new red); modulo 256." */
    private static void parting() {
        parting("red by b and green", 0x00000020, 0x04030201, "4050201");
        parting("blue by g and green", 0x00002000, 0x04030201, "4030203");
        parting("blue by r and red", 0x00200000, 0x04030201, "4030204");
        parting("blue by r and the new red", 0x00200020, 0x04030201, "4050206");
        parting("blue by both", 0x00202020, 0x04030201, "4050208");
        parting("alpha of the block is nothing", 0xFF000000, 0x04030201, "4030201");
        parting("red modulo 256, above", 0x00000020, 0x00FF0200, "10200");
        parting("red modulo 256, below", 0x000000E0, 0x00010200, "ff0200");
        parting("blue modulo 256, above", 0x00002000, 0x000002FF, "201");
        parting("blue modulo 256, below", 0x0000E000, 0x00000200, "2fe");
        parting("blue modulo 256, by both", 0x00E0E000, 0x00020200, "202fc");
        parting("each of both rounded by itself", 0x00101000, 0x00010100, "10100");
        parting("each of both rounded down by itself", 0x00FFFF00, 0x00010100, "101fe");
    }

    /** "DELTA(t, c) = t * c, both as bytes with sign, divided by 32, rounded down." */
    private static void partingBySign() {
        parting("-1 by 1 is -1", 0x000000FF, 0x00030100, "20100");
        parting("1 by -1 is -1", 0x00000001, 0x0003FF00, "2ff00");
        parting("-1 by -1 is 0", 0x000000FF, 0x0003FF00, "3ff00");
        parting("31 by 1 is 0", 0x0000001F, 0x00030100, "30100");
        parting("-31 by 1 is -1", 0x000000E1, 0x00030100, "20100");
        parting("-32 by 1 is -1", 0x000000E0, 0x00030100, "20100");
        parting("-33 by 1 is -2", 0x000000DF, 0x00030100, "10100");
        parting("127 by 127 is 504", 0x0000007F, 0x00007F00, "f87f00");
        parting("-128 by -128 is 512", 0x00000080, 0x00038000, "38000");
        parting("-128 by 127 is -508", 0x00008000, 0x00007F01, "7f05");
        parting("127 by -128 is -508", 0x00007F00, 0x00008001, "8005");
        parting("64 by the new red of -128", 0x00400020, 0x007F0100, "800100");
        parting("127 by the new red of -128 is -508", 0x007F0020, 0x007F0100, "800104");
        parting("-128 by the new red of -1", 0x00800020, 0x00FE0100, "ff0104");
        parting("a new red that comes round to 0", 0x007F0020, 0x00FF0100, "100");
    }

    /** "Red and blue become themselves plus green, modulo 256." */
    private static void greens() {
        Reading.good("green", Say.picture(5, 1).transform(2).noMoreTransforms().literalImage(
                0x04030201, 0xFFFF01FF, 0x0001FF02, 0x80FF00FF, 0x7FFEFFFE),
                "5x1 4050203 ff000100 ff01 80ff00ff 7ffdfffd");
    }

    private static Say palette(int w, int h, int... differences) {
        return Say.picture(w, h).transform(3).number(differences.length - 1, 4)
                .literalImage(differences);
    }

    private static void palettes() {
        Reading.good("one colour, and numbers above", palette(8, 1, 0x01020304).noMoreTransforms()
                .literalImage(0x1234A078), "8x1" + " 1020304".repeat(5) + " 0 1020304 0");
        Reading.good("two colours, those for the first x lowest",
                palette(8, 1, 0x01020304, 0xFF010101).noMoreTransforms().literalImage(0x000500),
                "8x1 30405 1020304 30405" + " 1020304".repeat(5));
        Reading.good("three colours by two bits, and one above", palette(4, 1, 1, 1, 1)
                .noMoreTransforms().literalImage(0b11100100 << 8), "4x1 1 2 3 0");
        Reading.good("four colours by two bits", palette(4, 1, 1, 1, 1, 1).noMoreTransforms()
                .literalImage(0b00011011 << 8), "4x1 4 3 2 1");
        Reading.good("five colours by four bits", palette(4, 1, 1, 1, 1, 1, 0x10000000)
                .noMoreTransforms().literalImage(0x5400, 0x0100), "4x1 10000004 0 2 1");
        Reading.good("each but the first is the difference to the one before, modulo 256",
                palette(4, 1, 0x80FF80FF, 0x80018001, 0x00FF00FF, 0x01020304).noMoreTransforms()
                        .literalImage(0b11100100 << 8), "4x1 80ff80ff 0 ff00ff 1010303");
    }

    /** Palettes of 1 to 16 colours at each width, with all numbers that the bits can say. */
    private static void palettesOfEachSize() {
        for (int n = 1; n <= 16; n++) {
            int each = n <= 2 ? 8 : n <= 4 ? 4 : 2;
            int most = n <= 2 ? 2 : n <= 4 ? 4 : 16;
            int[] differences = new int[n];
            Arrays.fill(differences, 0x01010101);
            for (int w = 1; w <= 8; w++) {
                int packed = (w + each - 1) / each;
                int[] said = new int[packed * 8];
                int[] due = new int[w * 8];
                for (int y = 0; y < 8; y++) {
                    for (int x = 0; x < packed * each; x++) {
                        // Numbers in turn, for the x that are beyond the width, too.
                        int number = (y * 3 + x * 5 + x / 2) % most;
                        int place = 1;
                        for (int i = 0; i < x % each; i++) {
                            place *= most;
                        }
                        said[y * packed + x / each] += 256 * place * number;
                        if (x < w) {
                            due[y * w + x] = number < n ? (number + 1) * 0x01010101 : 0;
                        }
                    }
                }
                for (int i = 0; i < said.length; i++) {
                    said[i] |= 0x5A3C00C3;
                }
                Reading.good(n + " colours at width " + w, palette(w, 8, differences)
                        .noMoreTransforms().literalImage(said), Reading.picture(w, 8, due));
            }
        }
    }

    /** "A number n and above is the colour 0", also where a palette before had more colours. */
    private static void palettesStandAlone() {
        int[] sixteen = new int[16];
        Arrays.fill(sixteen, 0x01010101);
        for (int n : new int[] {1, 3, 5, 15}) {
            int[] some = Arrays.copyOf(sixteen, n);
            int most = n < 3 ? 2 : n < 5 ? 4 : 16;
            int shift = n < 3 ? 1 : n < 5 ? 2 : 4;
            Say say = palette(2, 1, some).noMoreTransforms()
                    .literalImage((n - 1 | n << shift) << 8);
            Say highest = palette(1, 1, some).noMoreTransforms().literalImage(most - 1 << 8);
            LosslessPixels x = new LosslessPixels();
            palette(2, 1, sixteen).noMoreTransforms().literalImage(0xFE00).readBy(x);
            Check.same("sixteen", "2x1 f0f0f0f 10101010", Say.pictureOf(x));
            say.readBy(x);
            Check.same(n + " behind sixteen", Reading.picture(2, 1, n * 0x01010101, 0),
                    Say.pictureOf(x));
            highest.readBy(x);
            Check.same("the highest number, behind sixteen", "1x1 0", Say.pictureOf(x));
            x.size(8, 2);
            for (int i = 0; i < 16; i++) {
                x.set(i % 8, i / 8, ~i);
            }
            x.write(true, false, -1, 0);
            say.readBy(x);
            Check.same(n + " behind sixteen that were written",
                    Reading.picture(2, 1, n * 0x01010101, 0), Say.pictureOf(x));
        }
    }

    /** "The picture's, until a palette makes it less": fewer blocks behind it, not before it. */
    private static void palettesAndBlocks() {
        for (int n : new int[] {1, 2, 3, 4, 5, 16}) {
            int packed = n <= 2 ? 1 : n <= 4 ? 2 : 4;
            int[] colours = new int[n];
            colours[0] = 9;
            Say behind = palette(8, 5, colours).transform(0).literalImage(0x200, 0)
                    .noMoreTransforms().literalImage(new int[packed * 5]);
            Reading.good("two blocks behind a palette of " + n, behind, "8x5" + " 9".repeat(40));
            Say parts = palette(8, 5, colours).transform(1).literalImage(0x20, 0x20)
                    .noMoreTransforms().literalImage(new int[packed * 5]);
            Reading.good("two parts behind a palette of " + n, parts, "8x5" + " 9".repeat(40));
        }
        Say before = Say.picture(8, 1).transform(0).literalImage(0, 0).transform(3).number(1, 4)
                .literalImage(1, 1).noMoreTransforms().literalImage(0x0100);
        Reading.good("two blocks before a palette, which is undone first", before,
                "8x1 ff000002 ff000003 ff000004 ff000005 ff000006 ff000007 ff000008 ff000009");
        // Foretold by the left in the packed image, too: greens 1, 2, 3, 4 of two pixels each.
        int[] five = {1, 1, 1, 1, 1};
        Say less = palette(8, 1, five).transform(0).literalImage(0).noMoreTransforms()
                .literalImage(0x0100, 0x0100, 0x0100, 0x0100);
        Reading.good("foretold before the palette is undone", less, "8x1 2 1 3 1 4 1 5 1");
    }
}
