import java.util.Arrays;
import java.util.HashMap;
import java.util.Map;

/** Promise 10: the codes of a stream, how they are said, their words, and when they are bad. */
public final class CodeTest {
    private static final int[] ORDER = {
        17, 18, 0, 1, 2, 3, 4, 5, 16, 6, 7, 8, 9, 10, 11, 12, 13, 14, 15
    };

    public static void main(String[] args) {
        oneSymbol();
        twoSymbols();
        symbolsBelowM();
        leastSmallCode();
        smallCodesOfEachSize();
        smallCodeFor16();
        smallCodesStandAlone();
        badSmallCodes();
        smallCodesOfOneSymbol();
        latestLength();
        countsOfRuns();
        lengthsEndAtM();
        words();
        badCodes();
        oneSymbolAlone();
        codesStandAlone();
        Check.end();
    }

    /** "A bit n - 1; a bit; a number of 8 bits if that is 1, otherwise of one." */
    private static void oneSymbol() {
        Reading.good("one of one bit, 0",
                Reading.four(Reading.start(1, 1).noCache().raw("1 0 0 0")), "1x1 0");
        Reading.good("one of one bit, 1",
                Reading.four(Reading.start(1, 1).noCache().raw("1 0 0 1")), "1x1 100");
        Reading.good("one of 8 bits",
                Reading.four(Reading.start(1, 1).noCache().raw("1 0 1").number(200, 8)), "1x1 c800");
        Reading.good("0 of 8 bits",
                Reading.four(Reading.start(1, 1).noCache().raw("1 0 1").number(0, 8)), "1x1 0");
    }

    /** "If n is 2, another of 8 bits: these (bad when they are … the same) have the length 1." */
    private static void twoSymbols() {
        Say two = Reading.start(2, 1).noCache();
        Reading.good("the less has the word 0",
                Reading.four(Reading.copyOf(two).two(7, 200)).raw("01"), "2x1 700 c800");
        Reading.good("so it has when the greater is said first",
                Reading.four(Reading.copyOf(two).two(200, 7)).raw("01"), "2x1 700 c800");
        Reading.good("the first of one bit, the second of 8",
                Reading.four(Reading.copyOf(two).raw("1 1 0 1").number(0, 8)).raw("01"),
                "2x1 0 100");
        Reading.good("the first of one bit, the second far above",
                Reading.four(Reading.copyOf(two).raw("1 1 0 0").number(255, 8)).raw("10"),
                "2x1 ff00 0");
        Reading.bad("two that are the same", Reading.four(Reading.copyOf(two).two(7, 7)));
        Reading.bad("two that are 0", Reading.four(Reading.copyOf(two).raw("1 1 0 0").number(0, 8)));
        Reading.bad("two that are 1", Reading.four(Reading.copyOf(two).raw("1 1 0 1").number(1, 8)));
        Reading.bad("two that are 39, in the last code",
                Reading.copyOf(two).one(0).one(0).one(0).one(0).two(39, 39));
    }

    /** "Bad when they are not below m": that is 40 for D; for all others 255 is below. */
    private static void symbolsBelowM() {
        Reading.good("255 for G, R, B and A", Reading.start(1, 1).noCache().one(255).one(255)
                .one(255).one(255).one(0), "1x1 ffffffff");
        Reading.good("254 and 255 for G, R, B and A", Reading.start(1, 1).noCache().two(254, 255)
                .two(254, 255).two(255, 254).two(255, 254).one(0).raw("1010"), "1x1 fefeffff");
        Say d = Reading.start(1, 1).noCache().one(1).one(2).one(3).one(4);
        for (int symbol : new int[] {0, 1, 38, 39}) {
            Reading.good(symbol + " for D", Reading.copyOf(d).one(symbol), "1x1 4020103");
        }
        for (int symbol : new int[] {40, 41, 64, 128, 255}) {
            Reading.bad(symbol + " for D", Reading.copyOf(d).one(symbol));
            Reading.bad("first " + symbol + " for D", Reading.copyOf(d).two(symbol, 39));
            Reading.bad("second " + symbol + " for D", Reading.copyOf(d).two(39, symbol));
        }
        Reading.good("38 and 39 for D", Reading.copyOf(d).two(38, 39), "1x1 4020103");
        Reading.good("39 and 0 for D", Reading.copyOf(d).two(39, 0), "1x1 4020103");
    }

    /** "4 bits q; q + 4 times 3 bits": for 17, 18, 0 and 1 when q is 0. */
    private static void leastSmallCode() {
        // 17 has the word 0, 18 has 10, 0 has 110, 1 has 111. Reds 3 and 5 have a length.
        Say say = Reading.start(2, 1).noCache().one(0).number(0, 1).number(0, 4);
        say.number(1, 3).number(2, 3).number(3, 3).number(3, 3);
        say.raw("0").number(0, 3).raw("111 110 111");
        say.raw("10").number(127, 7).raw("10").number(112 - 11, 7);
        Reading.good("q is 0", say.one(0).one(0).one(0).raw("10"), "2x1 50000 30000");
    }

    /** Each further length of a small code is for the symbol that is due, and is the last one. */
    private static void smallCodesOfEachSize() {
        for (int q = 1; q < 16; q++) {
            int longest = ORDER[q + 3];
            if (longest == 16) {
                continue;
            }
            // 18 and all below the longest share the words that begin with 1; it has the word 0.
            int[] small = new int[19];
            small[longest] = 1;
            int others = longest;
            int bits = 32 - Integer.numberOfLeadingZeros(others - 1);
            int shorter = (1 << bits) - others;
            for (int i = 1; i <= others; i++) {
                small[i == others ? 18 : i] = i <= shorter ? bits : bits + 1;
            }
            Map<Integer, String> words = new HashMap<>();
            Reference.words(small).forEach((word, symbol) -> words.put(symbol, word));
            Say say = Reading.start(2, 1).noCache().one(0).number(0, 1).number(q, 4);
            for (int i = 0; i < q + 4; i++) {
                say.number(small[ORDER[i]], 3);
            }
            // Reds from 0 on have the lengths 1, 2, 3 and so on, the longest one twice.
            for (int i = 0; i <= longest; i++) {
                say.raw(words.get(Math.min(i + 1, longest)));
            }
            say.raw(words.get(18)).number(127, 7);
            say.raw(words.get(18)).number(256 - 138 - longest - 1 - 11, 7).one(0).one(0).one(0);
            say.raw("1".repeat(longest)).raw("1".repeat(longest - 1) + "0");
            Reading.good("q is " + q, say, Reading.picture(2, 1, longest << 16, longest - 1 << 16));
        }
    }

    /** The ninth length is for 16, which comes before 6. */
    private static void smallCodeFor16() {
        Say say = Reading.start(1, 1).noCache().one(0).number(0, 1).number(5, 4);
        for (int i = 0; i < 9; i++) {
            say.number(ORDER[i] == 0 || ORDER[i] == 16 ? 1 : 0, 3);
        }
        for (int i = 0; i < 42; i++) {
            say.raw("1").number(3, 2);
        }
        say.raw("1").number(1, 2).one(0).one(0).one(0).word(0xA5, 8);
        Reading.good("q is 5", say, "1x1 a50000");
    }

    /** "Others 0": also where a small code before had lengths. */
    private static void smallCodesStandAlone() {
        Say say = Reading.start(1, 1).noCache().code(280, 9, 3);
        // For R: 1 has the word 0, 18 has the word 1; 200 zeros, a one, 55 zeros.
        say.number(0, 1).number(0, 4).number(0, 3).number(1, 3).number(0, 3).number(1, 3);
        say.raw("1").number(127, 7).raw("1").number(62 - 11, 7).raw("0").raw("1").number(55 - 11, 7);
        Reading.good("a small code behind one of all symbols", say.one(0).one(0).one(0),
                "1x1 c80900");
    }

    /** "A code is bad (a small one, too) when its words are too many or do not use up all …" */
    private static void badSmallCodes() {
        int[][] bad = {{8, 1, 9, 2}, {8, 7, 9, 7}, {8, 1, 9, 2, 10, 3}, {8, 2, 9, 2, 10, 2},
            {8, 1, 9, 1, 10, 1}, {8, 1, 9, 1, 10, 7}, {8, 1, 9, 2, 10, 3, 11, 4, 12, 5, 13, 6, 14, 7},
            {8, 1, 9, 2, 10, 2, 11, 7}, {8, 2, 9, 2}, {8, 1, 0, 7}, {8, 1, 15, 1, 14, 7}};
        for (int[] lengths : bad) {
            // 8 has the word of zeros; 256 of them would be a good code.
            Say say = Reading.start(1, 1).noCache().one(0).small(Say.lengthsOf(lengths));
            say.raw("0".repeat(lengths[1] * 256)).one(0).one(0).one(0);
            Reading.bad("a small code of " + Arrays.toString(lengths), say);
        }
        Reading.bad("a small code of nothing",
                Reading.start(1, 1).noCache().one(0).small(Say.lengthsOf()));
        // One of each length up to 7 and a second 7 use up all words.
        Say chain = Reading.start(1, 1).noCache().one(5).small(Say.lengthsOf(8, 1, 9, 2, 10, 3, 11,
                4, 12, 5, 13, 6, 14, 7, 15, 7));
        chain.raw("0".repeat(256)).one(6).one(7).one(0).word(0x90, 8);
        Reading.good("a small code of words of 1 to 7 bits", chain, "1x1 7900506");
    }

    /** "But one symbol alone, whatever its length, has a word of no bits": in a small code. */
    private static void smallCodesOfOneSymbol() {
        for (int length = 1; length < 8; length++) {
            Say alone = Reading.start(1, 1).noCache().one(5).small(Say.lengthsOf(8, length));
            Reading.good("256 lengths of 8 by no bits", alone.one(6).one(7).one(0).word(0x90, 8),
                    "1x1 7900506");
        }
        Say runs = Reading.start(1, 1).noCache().one(5).small(Say.lengthsOf(16, 4));
        for (int i = 0; i < 42; i++) {
            runs.number(3, 2);
        }
        Reading.good("16 alone", runs.number(1, 2).one(6).one(7).one(0).word(0x91, 8),
                "1x1 7910506");
        Reading.bad("280 lengths of 8 by no bits",
                Reading.start(1, 1).noCache().small(Say.lengthsOf(8, 3)));
        Reading.bad("lengths of 0 by no bits",
                Reading.start(1, 1).noCache().small(Say.lengthsOf(0, 1)));
        Reading.bad("17 alone, which goes beyond 280", Reading.start(1, 1).noCache()
                .small(Say.lengthsOf(17, 1)).raw("1".repeat(3 * 28)));
        Reading.bad("18 alone, all zeros", Reading.start(1, 1).noCache().small(Say.lengthsOf(18, 1))
                .number(127, 7).number(127, 7));
    }

    /** "16: the latest length that was not 0 (8 if there was none)." */
    private static void latestLength() {
        Say eights = new Say();
        for (int i = 0; i < 42; i++) {
            eights.again(6);
        }
        eights.again(4);
        Say g = Reading.start(1, 1).noCache().one(1);
        Reading.good("8 when there was none", Reading.copyOf(g).bySmall().raw(eights.text())
                .one(0).one(0).one(0).word(0xAB, 8), "1x1 ab0100");
        String[] zeros = {new Say().zeros(24).text(), new Say().fewZeros(10).zeros(14).text(),
            new Say().length(new int[24]).text()};
        for (String before : zeros) {
            Say say = Reading.start(1, 1).noCache().bySmall().raw(before).raw(eights.text());
            Reading.good("8 when all were 0", Reading.four(say).word(0x20, 8), "1x1 3800");
        }
        Say anew = Reading.start(1, 1).noCache().code(280, 3, 2, 4, 2, 5, 2, 6, 2);
        Reading.good("8 in a code behind another", anew.bySmall().raw(eights.text()).one(0).one(0)
                .one(0).raw("01").word(0xCD, 8), "1x1 cd0400");
        Reading.good("not the zeros between", Reading.copyOf(g).bySmall().length(2).fewZeros(3)
                .length(0).zeros(11).again(3).zeros(237).one(0).one(0).one(0).raw("11"),
                "1x1 120100");
        Reading.good("16 behind 16", Reading.copyOf(g).bySmall().length(4).again(6).length(0)
                .again(5).again(4).zeros(239).one(0).one(0).one(0).raw("1111"), "1x1 100100");
        // Were it 8 behind a 1, half of all words and 128 of 8 bits would be all words there are.
        Say ones = Reading.copyOf(g).bySmall().length(1);
        for (int i = 0; i < 22; i++) {
            ones.again(i < 20 ? 6 : 4);
        }
        Reading.bad("a 1 is a latest length, too", ones.zeros(127).one(0).one(0).one(0));
        Reading.good("the latest of several", Reading.copyOf(g).bySmall().length(1, 4, 3, 4, 0)
                .again(4).zeros(247).one(0).one(0).one(0).raw("1111"), "1x1 80100");
    }

    /** "3 times and as many more as 2 bits say; … 3 times and 3 bits; … 11 times and 7 bits." */
    private static void countsOfRuns() {
        for (int count = 3; count <= 10; count++) {
            Reading.good("17: " + count + " zeros", Reading.four(Reading.start(1, 1).noCache()
                    .bySmall().fewZeros(count).length(1).zeros(279 - count)),
                    Reading.greens(1, 1, count));
        }
        for (int count = 11; count <= 138; count++) {
            Reading.good("18: " + count + " zeros", Reading.four(Reading.start(1, 1).noCache()
                    .bySmall().manyZeros(count).length(1).zeros(279 - count)),
                    Reading.greens(1, 1, count));
        }
        Say g = Reading.start(1, 1).noCache().bySmall();
        Reading.good("16: 3 times", Reading.four(Reading.copyOf(g).length(3).again(3).length(1)
                .zeros(275)).raw("0"), Reading.greens(1, 1, 4));
        Reading.good("16: 4 times", Reading.four(Reading.copyOf(g).length(3).again(4).length(2, 3)
                .zeros(273)).raw("00"), Reading.greens(1, 1, 5));
        Reading.good("16: 5 times", Reading.four(Reading.copyOf(g).length(3).again(5).length(2)
                .zeros(273)).raw("00"), Reading.greens(1, 1, 6));
        Reading.good("16: 6 times", Reading.four(Reading.copyOf(g).length(3).again(6).length(4, 4)
                .zeros(271)).raw("1110"), Reading.greens(1, 1, 7));
    }

    /** "Each of the three bad when there are more than m then", for each code's own m. */
    private static void lengthsEndAtM() {
        for (int cacheBits = 0; cacheBits <= 4; cacheBits++) {
            for (int which = 0; which < 5; which++) {
                runsEndAtM(cacheBits, which);
            }
        }
    }

    /** The lengths that go beyond m would make a good code if they were cut off there. */
    private static void runsEndAtM(int cacheBits, int which) {
        int m = which == 4 ? 40 : which > 0 ? 256 : cacheBits == 0 ? 280 : 280 + (1 << cacheBits);
        Say by18 = new Say().bySmall().length(1, 1).zeros(m - 13);
        Say by17 = new Say().bySmall().length(1, 1).zeros(m - 5);
        Say by16 = new Say().bySmall().length(2).zeros(m - 4);
        String what = "code " + which + " of " + m;
        String word = which == 4 ? "" : "0";
        Reading.good(what + ", ends with 18",
                onePixel(cacheBits, which, Reading.copyOf(by18).manyZeros(11)).raw(word), "1x1 0");
        Reading.good(what + ", ends with 17",
                onePixel(cacheBits, which, Reading.copyOf(by17).fewZeros(3)).raw(word), "1x1 0");
        Reading.good(what + ", ends with 16",
                onePixel(cacheBits, which, Reading.copyOf(by16).again(3)).raw(word + word), "1x1 0");
        for (int more : new int[] {1, 127}) {
            Reading.bad(what + ", 18 goes beyond by " + more,
                    onePixel(cacheBits, which, Reading.copyOf(by18).manyZeros(11 + more)));
        }
        for (int more : new int[] {1, 7}) {
            Reading.bad(what + ", 17 goes beyond by " + more,
                    onePixel(cacheBits, which, Reading.copyOf(by17).fewZeros(3 + more)));
        }
        for (int more : new int[] {1, 3}) {
            Reading.bad(what + ", 16 goes beyond by " + more,
                    onePixel(cacheBits, which, Reading.copyOf(by16).again(3 + more)));
        }
    }

    /** A picture of one pixel, up to its five codes, one of which is this. */
    private static Say onePixel(int cacheBits, int which, Say code) {
        Say say = Reading.start(1, 1);
        say = cacheBits == 0 ? say.noCache() : say.cache(cacheBits);
        for (int i = 0; i < 5; i++) {
            say = i == which ? say.raw(code.text()) : say.one(0);
        }
        return say;
    }

    /** "By length, and by symbol for the same length, in order, 0 .. 0 first, …" */
    private static void words() {
        Say mixed = Reading.start(4, 1).noCache().code(280, 5, 3, 6, 1, 9, 3, 250, 2);
        Reading.good("by length, then by symbol", Reading.four(mixed).raw("111 0 10 110"),
                "4x1 900 600 fa00 500");
        int[] deep = new int[32];
        for (int i = 0; i < 16; i++) {
            deep[2 * i] = 10 * i;
            deep[2 * i + 1] = i == 0 ? 15 : 16 - i;
        }
        Say longest = Reading.four(Reading.start(2, 1).noCache().code(280, deep));
        Reading.good("words of 15 bits", longest.raw("1".repeat(15)).raw("1".repeat(14) + "0"),
                "2x1 a00 0");
        Say gap = Reading.start(3, 1).noCache().code(280, 1, 1, 2, 3, 3, 3, 4, 3, 5, 3);
        Reading.good("zeros behind it where it is longer", Reading.four(gap).raw("100 111 0"),
                "3x1 200 500 100");
    }

    private static void badCodes() {
        int[][] bad = {{}, {3, 1, 4, 2}, {3, 2, 4, 2, 5, 2}, {3, 15, 4, 15}, {3, 1, 4, 1, 5, 1},
            {3, 1, 4, 1, 5, 15}, {3, 1, 4, 2, 5, 2, 6, 15}, {0, 1, 1, 2, 2, 3, 3, 4, 4, 5, 5, 6, 6, 7,
                7, 8, 8, 9, 9, 10, 10, 11, 11, 12, 12, 13, 13, 14, 14, 15}};
        int[] m = {280, 256, 256, 256, 40};
        for (int which = 0; which < 5; which++) {
            for (int[] lengths : bad) {
                Reading.bad("code " + which + " of " + Arrays.toString(lengths),
                        onePixel(0, which, new Say().code(m[which], lengths)));
            }
        }
    }

    /** "But one symbol alone, whatever its length, has a word of no bits." */
    private static void oneSymbolAlone() {
        for (int length = 1; length <= 15; length++) {
            Say say = Reading.start(2, 2).noCache().code(280, 255, length).code(256, 0, length)
                    .code(256, 9, length).code(256, 254, length).code(40, 39, length);
            Reading.good("one symbol of length " + length, say, "2x2" + " fe00ff09".repeat(4));
            Say distance = Reading.start(2, 1).noCache().code(280, 8, 1, 256, 1).one(0).one(0).one(0)
                    .code(40, 1, length).raw("0 1");
            Reading.good("one distance of length " + length, distance, "2x1 800 800");
        }
    }

    /** A code has nothing of those before it, in its stream or in another. */
    private static void codesStandAlone() {
        Say full = Say.picture(2, 1).transform(3).number(1, 4).literalImage(1, 2);
        Reading.good("few symbols behind many", Reading.four(full.noMoreTransforms().noCache()
                .two(1, 2)).raw("0"), "2x1 3 1");
        LosslessPixels x = new LosslessPixels();
        Reading.start(2, 1).literalImage(0x12345678, 0x9ABCDEF0).readBy(x);
        Say few = Reading.start(2, 1).noCache().two(1, 2).one(3).two(4, 5).one(6).one(7);
        Check.same("few symbols behind a stream of many", few.raw("0 1 1 0").count(), few.readBy(x));
        Check.same("its picture", "2x1 6030105 6030204", Say.pictureOf(x));
        x.write(false, false, -1, 0);
        Check.same("and behind a write", few.count(), few.readBy(x));
        Check.same("its picture then", "2x1 6030105 6030204", Say.pictureOf(x));
    }
}
