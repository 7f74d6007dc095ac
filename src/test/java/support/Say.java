/** Builds streams bit by bit, by the words of the document, to be fed to an object. */
final class Say {
    private final StringBuilder bits = new StringBuilder();

    /** The beginning of a stream: the mark and the two sides. */
    static Say picture(int width, int height) {
        return new Say().number(47, 8).number(width - 1, 3).number(height - 1, 3);
    }

    Say number(int number, int count) {
        for (int i = 0; i < count; i++) {
            bits.append((char) ('0' + (number >> i & 1)));
        }
        return this;
    }

    /** Bits in the order in which they stand, with spaces to be left out. */
    Say raw(String more) {
        bits.append(more.replace(" ", ""));
        return this;
    }

    Say transform(int kind) {
        return number(1, 1).number(kind, 2);
    }

    /** A transform whose image, if it has one, is plain: pixels 0, and a palette of the colour 0. */
    Say plainTransform(int kind) {
        transform(kind);
        if (kind == 3) {
            number(0, 4);
        }
        return kind == 2 ? this : plainImage(0);
    }

    Say noMoreTransforms() {
        return number(0, 1);
    }

    Say noCache() {
        return number(0, 1);
    }

    Say cache(int colourBits) {
        return number(1, 1).number(colourBits - 1, 2);
    }

    /** A code by the bit 1, for one symbol below 256. */
    Say one(int symbol) {
        return number(1, 1).number(0, 1).number(1, 1).number(symbol, 8);
    }

    /** A code by the bit 1, for two symbols in the order given. */
    Say two(int first, int second) {
        return number(1, 1).number(1, 1).number(1, 1).number(first, 8).number(second, 8);
    }

    /** The first half of a code by lengths: the small code, with all 19 lengths. */
    Say small(int[] lengthOfSymbol) {
        number(0, 1).number(15, 4);
        int[] order = {17, 18, 0, 1, 2, 3, 4, 5, 16, 6, 7, 8, 9, 10, 11, 12, 13, 14, 15};
        for (int symbol : order) {
            number(lengthOfSymbol[symbol], 3);
        }
        return this;
    }

    /** The small code that the four methods below speak: 13 words of 4 bits, 6 of 5. */
    Say bySmall() {
        int[] smallLengths = new int[19];
        for (int i = 0; i < 19; i++) {
            smallLengths[i] = i < 13 ? 4 : 5;
        }
        return small(smallLengths);
    }

    /** Symbols of that small code. */
    Say length(int... symbols) {
        for (int symbol : symbols) {
            word(symbol < 13 ? symbol : 13 + symbol, symbol < 13 ? 4 : 5);
        }
        return this;
    }

    Say again(int times) {
        return length(16).number(times - 3, 2);
    }

    Say fewZeros(int times) {
        return length(17).number(times - 3, 3);
    }

    Say manyZeros(int times) {
        return length(18).number(times - 11, 7);
    }

    /** So many zeros by that small code. */
    Say zeros(int times) {
        int left = times;
        while (left >= 11) {
            int many = Math.min(138, left);
            manyZeros(many);
            left -= many;
        }
        return length(new int[left]);
    }

    /** A whole code by lengths: symbols in order, each with its length behind it. */
    Say code(int m, int... symbolsAndLengths) {
        bySmall();
        int done = 0;
        for (int i = 0; i < symbolsAndLengths.length; i += 2) {
            zeros(symbolsAndLengths[i] - done).length(symbolsAndLengths[i + 1]);
            done = symbolsAndLengths[i] + 1;
        }
        return zeros(m - done);
    }

    /** The same, but each length, each 0 too, is said by itself. */
    Say codeOneByOne(int m, int... symbolsAndLengths) {
        int[] lengths = new int[m];
        for (int i = 0; i < symbolsAndLengths.length; i += 2) {
            lengths[symbolsAndLengths[i]] = symbolsAndLengths[i + 1];
        }
        return bySmall().length(lengths);
    }

    /** A word, which has its highest bit first. */
    Say word(int word, int count) {
        for (int i = count - 1; i >= 0; i--) {
            bits.append((char) ('0' + (word >> i & 1)));
        }
        return this;
    }

    /** An image without a cache whose pixels are all said by their parts, 8 bits for each. */
    Say literalImage(int... pixels) {
        noCache();
        small(lengthsOf(16, 1, 18, 1));
        for (int i = 0; i < 42; i++) {
            raw("0").number(3, 2);
        }
        raw("0").number(1, 2).raw("1").number(24 - 11, 7);
        for (int i = 0; i < 3; i++) {
            small(lengthsOf(8, 1));
        }
        one(0);
        for (int pixel : pixels) {
            word(pixel >> 8 & 255, 8).word(pixel >> 16 & 255, 8).word(pixel & 255, 8);
            word(pixel >>> 24, 8);
        }
        return this;
    }

    /** Lengths for a small code: symbols, each with its length behind it, all others 0. */
    static int[] lengthsOf(int... symbolsAndLengths) {
        int[] lengths = new int[19];
        for (int i = 0; i < symbolsAndLengths.length; i += 2) {
            lengths[symbolsAndLengths[i]] = symbolsAndLengths[i + 1];
        }
        return lengths;
    }

    /** An image whose pixels are all the same, said by no bits at all behind its codes. */
    Say plainImage(int pixel) {
        return noCache().one(pixel >> 8 & 255).one(pixel >> 16 & 255).one(pixel & 255)
                .one(pixel >>> 24).one(0);
    }

    int count() {
        return bits.length();
    }

    String text() {
        return bits.toString();
    }

    /** Puts the bits behind the object's stream, zeros filling up the last byte. */
    void feedTo(LosslessPixels object) {
        feed(text(), object);
    }

    /** Feeds eight bytes at once, as an object takes but so many calls. */
    static void feed(String bits, LosslessPixels object) {
        for (int i = 0; i < bits.length(); i += 64) {
            String some = bits.substring(i, Math.min(bits.length(), i + 64));
            long value = 0;
            for (int k = 0; k < some.length(); k++) {
                value |= (long) (some.charAt(k) - '0') << k;
            }
            object.feed(value, (some.length() + 7) / 8);
        }
    }

    /** The first bits that an object's stream has, so many, or fewer if it ends before. */
    static String bitsOf(LosslessPixels object, int count) {
        StringBuilder text = new StringBuilder();
        int next = count > 0 ? object.byteAt(0) : LosslessPixels.NONE;
        for (int i = 1; i <= 701 && next != LosslessPixels.NONE; i++) {
            text.append(new Say().number(next, 8).text());
            next = 8 * i < count ? object.byteAt(i) : LosslessPixels.NONE;
        }
        return text.substring(0, Math.min(count, text.length()));
    }

    /** All bits of an object's stream. */
    static String bitsOf(LosslessPixels object) {
        return bitsOf(object, Integer.MAX_VALUE);
    }

    /** The bits of a stream that these bits were fed to: with zeros that fill up the last byte. */
    static String whole(String bits) {
        return bits + "0".repeat((8 - bits.length() % 8) % 8);
    }

    /** What read() answers for these bits on the object; the stream is wiped before. */
    int readBy(LosslessPixels object) {
        object.wipe();
        feedTo(object);
        return object.read();
    }

    /** The width, the height and all pixels of an object's picture. */
    static String pictureOf(LosslessPixels object) {
        int width = object.measure(0);
        int height = object.measure(1);
        StringBuilder text = new StringBuilder(width + "x" + height);
        for (int i = 0; i < width * height; i++) {
            text.append(' ').append(Integer.toHexString(object.pixel(i % width, i / width)));
        }
        return text.toString();
    }

    static String hadOf(LosslessPixels object) {
        StringBuilder text = new StringBuilder();
        for (int i = 0; i < 7; i++) {
            text.append(object.had(i)).append(' ');
        }
        return text.toString();
    }
}
