import java.util.Arrays;

/**
 * Small pictures and streams of bits that say them without loss, after the manner of WebP: codes of
 * several lengths, copies from before by distances over the plane, a cache of colours, and
 * transforms that foretell pixels, part colours, or write them by a palette; streams are read, and
 * written.
 */
public final class LosslessPixels {
    public static final int NONE = -1;

    private static final int MOST_SIDE = 8;
    private static final int MOST_BYTES = 700;
    private static final int MARK = 47;

    private static final int FORETELL = 0;
    private static final int PART = 1;
    private static final int GREEN = 2;
    private static final int PALETTE = 3;
    private static final int KINDS = 4;
    private static final int BLOCK = 4;
    private static final int MOST_BLOCKS = 4;
    private static final int MOST_COLOURS = 16;
    private static final int MOST_MODE = 13;
    private static final int MOST_CACHE_BITS = 4;
    private static final int BLACK = 0xFF000000;

    private static final int LITERALS = 256;
    private static final int FIRST_CACHED = 280;
    private static final int PREFIXES = 40;
    private static final int MOST_SYMBOLS = 296;
    private static final int MOST_LENGTH = 15;
    private static final int SMALL_SYMBOLS = 19;
    private static final int LEAST_COPY = 3;
    private static final int NEAR = 8;

    private static final int[] SMALL_ORDER = {
        17, 18, 0, 1, 2, 3, 4, 5, 16, 6, 7, 8, 9, 10, 11, 12, 13, 14, 15
    };
    private static final int[] NEAR_X = {0, 1, 1, -1, 0, 2, 1, -1};
    private static final int[] NEAR_Y = {1, 0, 1, 1, 2, 0, 2, 2};

    private final Plane picture;
    private final Plane work;
    private final Bits stream;
    private final Bits draft;
    private final Transforms transforms;
    private final ImageReader reader;
    private final ImageWriter writer;
    private final int[] colours;
    private final int[] account;
    private boolean accounted;

    public LosslessPixels() {
        picture = new Plane(MOST_SIDE * MOST_SIDE);
        work = new Plane(MOST_SIDE * MOST_SIDE);
        stream = new Bits();
        draft = new Bits();
        Codes codes = new Codes();
        Cache cache = new Cache();
        transforms = new Transforms();
        reader = new ImageReader(codes, cache);
        writer = new ImageWriter(codes, cache);
        colours = new int[MOST_SIDE * MOST_SIDE];
        account = new int[KINDS + 3];
    }

    public int size(int width, int height) throws IllegalArgumentException {
        if (width < 1 || width > MOST_SIDE || height < 1 || height > MOST_SIDE) {
            throw new IllegalArgumentException("a side is 1 to 8");
        }
        picture.shape(width, height);
        Arrays.fill(picture.pixels, 0);
        return picture.count();
    }

    public int set(int x, int y, int pixel) throws IndexOutOfBoundsException {
        if (!picture.holds(x, y)) {
            throw new IndexOutOfBoundsException("no such pixel");
        }
        int place = y * picture.width + x;
        int before = picture.pixels[place];
        picture.pixels[place] = pixel;
        return before;
    }

    public int pixel(int x, int y) throws IndexOutOfBoundsException {
        if (!picture.holds(x, y)) {
            throw new IndexOutOfBoundsException("no such pixel");
        }
        return picture.pixels[y * picture.width + x];
    }

    public int measure(int what) {
        switch (what) {
            case 0: return picture.width;
            case 1: return picture.height;
            case 2: return gatherColours();
            default: return NONE;
        }
    }

    public int feed(long w, int n) {
        int bytes = stream.bytesHeld();
        if (n < 1 || n > 8 || bytes + n > MOST_BYTES) {
            return NONE;
        }
        for (int i = 0; i < n; i++) {
            stream.put((int) (w >>> 8 * i) & 255, 8);
        }
        return bytes + n;
    }

    public int wipe() {
        int bytes = stream.bytesHeld();
        stream.clear();
        return bytes;
    }

    public int byteAt(int i) {
        return i < 0 || i >= stream.bytesHeld() ? NONE : stream.bytes[i];
    }

    public int flip(int i) throws IndexOutOfBoundsException {
        if (i < 0 || i >= stream.held) {
            throw new IndexOutOfBoundsException("no such bit");
        }
        stream.bytes[i / 8] ^= 1 << i % 8;
        return stream.bytes[i / 8] >> i % 8 & 1;
    }

    public int read() throws IllegalArgumentException {
        stream.place = 0;
        if (stream.number(8) != MARK) {
            throw new IllegalArgumentException("the first byte is not 47");
        }
        work.width = stream.number(3) + 1;
        work.height = stream.number(3) + 1;
        transforms.clear();
        // A turn more than there are kinds: what comes then came before, and is bad.
        for (int i = 0; i <= KINDS && stream.bit() == 1; i++) {
            work.width = transforms.take(stream, reader, work.width, work.height);
        }
        reader.take(stream, work);
        transforms.undoAll(work);
        picture.become(work);
        for (int kind = 0; kind < KINDS; kind++) {
            account[kind] = transforms.have(kind) ? 1 : 0;
        }
        closeAccount(reader.cache.colourCount(), reader.copies, reader.cached);
        return stream.place;
    }

    public int write(boolean palette, boolean green, int mode, int cache)
            throws IllegalArgumentException, IllegalStateException {
        if (mode < NONE || mode > MOST_MODE || cache < 0 || cache > MOST_CACHE_BITS) {
            throw new IllegalArgumentException("no such mode or cache");
        }
        int count = palette ? gatherColours() : 0;
        if (count > MOST_COLOURS) {
            throw new IllegalArgumentException("too many colours for a palette");
        }
        draftStream(count, green, mode, cache);
        if (draft.bytesHeld() > MOST_BYTES) {
            throw new IllegalStateException("more than 700 bytes");
        }
        stream.become(draft);
        account[FORETELL] = mode == NONE ? 0 : 1;
        account[PART] = 0;
        account[GREEN] = green ? 1 : 0;
        account[PALETTE] = palette ? 1 : 0;
        closeAccount(writer.cache.colourCount(), writer.copies, writer.cached);
        return draft.held;
    }

    public int had(int what) {
        return !accounted || what < 0 || what >= account.length ? NONE : account[what];
    }

    private void closeAccount(int cacheColours, int copies, int cached) {
        account[KINDS] = cacheColours;
        account[KINDS + 1] = copies;
        account[KINDS + 2] = cached;
        accounted = true;
    }

    /** Makes the row of different colours, the less first as numbers without sign: how many. */
    private int gatherColours() {
        int count = 0;
        for (int i = 0; i < picture.count(); i++) {
            int colour = picture.pixels[i];
            int place = 0;
            while (place < count && isLess(colours[place], colour)) {
                place++;
            }
            if (place == count || colours[place] != colour) {
                for (int k = count; k > place; k--) {
                    colours[k] = colours[k - 1];
                }
                colours[place] = colour;
                count++;
            }
        }
        return count;
    }

    private static boolean isLess(int a, int b) {
        return (a ^ 0x80000000) < (b ^ 0x80000000);
    }

    /** The draft becomes the picture's stream; a palette of no colours is none. */
    private void draftStream(int colourCount, boolean green, int mode, int cacheBits) {
        draft.clear();
        draft.put(MARK, 8);
        draft.put(picture.width - 1, 3);
        draft.put(picture.height - 1, 3);
        work.become(picture);
        if (colourCount > 0) {
            sayKind(PALETTE);
            draft.put(colourCount - 1, 4);
            writer.say(draft, transforms.paletteImage(colours, colourCount), 0);
            Colours.pack(work, colours, colourCount);
        }
        if (green) {
            sayKind(GREEN);
            Colours.takeGreenOff(work);
        }
        if (mode != NONE) {
            sayKind(FORETELL);
            writer.say(draft, transforms.modeImage(work, mode), 0);
            Foretelling.takeOff(work, mode);
        }
        draft.put(0, 1);
        writer.say(draft, work, cacheBits);
    }

    private void sayKind(int kind) {
        draft.put(1, 1);
        draft.put(kind, 2);
    }

    private static int part(int pixel, int shift) {
        return pixel >>> shift & 255;
    }

    private static int sum(int a, int b) {
        int sum = 0;
        for (int shift = 0; shift < 32; shift += 8) {
            sum |= (part(a, shift) + part(b, shift) & 255) << shift;
        }
        return sum;
    }

    private static int difference(int a, int b) {
        int difference = 0;
        for (int shift = 0; shift < 32; shift += 8) {
            difference |= (part(a, shift) - part(b, shift) & 255) << shift;
        }
        return difference;
    }

    private static int average(int a, int b) {
        int average = 0;
        for (int shift = 0; shift < 32; shift += 8) {
            average |= (part(a, shift) + part(b, shift)) / 2 << shift;
        }
        return average;
    }

    private static int clamp(int part) {
        return part < 0 ? 0 : part > 255 ? 255 : part;
    }

    /** Pixels in rows: a picture, or an image that a stream says. */
    private static final class Plane {
        final int[] pixels;
        int width = 1;
        int height = 1;

        Plane(int most) {
            pixels = new int[most];
        }

        void shape(int newWidth, int newHeight) {
            width = newWidth;
            height = newHeight;
        }

        int count() {
            return width * height;
        }

        boolean holds(int x, int y) {
            return x >= 0 && x < width && y >= 0 && y < height;
        }

        void become(Plane other) {
            shape(other.width, other.height);
            System.arraycopy(other.pixels, 0, pixels, 0, other.count());
        }
    }

    /** A row of bits, put behind one another and read from a place that moves on. */
    private static final class Bits {
        final int[] bytes = new int[MOST_BYTES];
        /** May go beyond what the bytes can keep: a draft that is too long is measured, not kept. */
        int held;
        int place;

        void clear() {
            held = 0;
        }

        int bytesHeld() {
            return (held + 7) / 8;
        }

        int bit() {
            return number(1);
        }

        int number(int count) {
            if (count > held - place) {
                throw new IllegalArgumentException("the stream ends too early");
            }
            int number = 0;
            for (int i = 0; i < count; i++) {
                number |= (bytes[place / 8] >> place % 8 & 1) << i;
                place++;
            }
            return number;
        }

        void put(int number, int count) {
            for (int i = 0; i < count; i++) {
                putBit(number >> i & 1);
            }
        }

        void putBit(int bit) {
            int at = held / 8;
            if (at < MOST_BYTES) {
                int before = held % 8 == 0 ? 0 : bytes[at];
                bytes[at] = before | bit << held % 8;
            }
            held++;
        }

        void become(Bits other) {
            int count = Math.min(other.bytesHeld(), MOST_BYTES);
            System.arraycopy(other.bytes, 0, bytes, 0, count);
            held = count * 8;
        }
    }

    /** The transform that foretells pixels by those to the left and above. */
    private static final class Foretelling {
        static void putOn(Plane image, Plane modes) {
            for (int y = 0; y < image.height; y++) {
                for (int x = 0; x < image.width; x++) {
                    int mode = part(modes.pixels[blockOf(x, y, modes)], 8) % 16;
                    int place = y * image.width + x;
                    image.pixels[place] = sum(image.pixels[place], foretold(image, x, y, mode));
                }
            }
        }

        /** From the last pixel on, since each is foretold by earlier ones that must still stand. */
        static void takeOff(Plane image, int mode) {
            for (int y = image.height - 1; y >= 0; y--) {
                for (int x = image.width - 1; x >= 0; x--) {
                    int place = y * image.width + x;
                    image.pixels[place] =
                            difference(image.pixels[place], foretold(image, x, y, mode));
                }
            }
        }

        static int blockOf(int x, int y, Plane blocks) {
            return y / BLOCK * blocks.width + x / BLOCK;
        }

        static int foretold(Plane image, int x, int y, int mode) {
            int place = y * image.width + x;
            if (place == 0) {
                return BLACK;
            }
            if (y == 0) {
                return image.pixels[place - 1];
            }
            int above = place - image.width;
            if (x == 0) {
                return image.pixels[above];
            }
            // Behind the last pixel of the row above comes the first of this row, in memory too.
            return byMode(mode, image.pixels[place - 1], image.pixels[above],
                    image.pixels[above - 1], image.pixels[above + 1]);
        }

        static int byMode(int mode, int l, int t, int tl, int tr) {
            switch (mode) {
                case 1: return l;
                case 2: return t;
                case 3: return tr;
                case 4: return tl;
                case 5: return average(average(l, tr), t);
                case 6: return average(l, tl);
                case 7: return average(l, t);
                case 8: return average(tl, t);
                case 9: return average(t, tr);
                case 10: return average(average(l, tl), average(t, tr));
                case 11: return nearer(l, t, tl);
                case 12: return slope(l, t, tl);
                case 13: return halfSlope(average(l, t), tl);
                default: return BLACK;
            }
        }

        static int nearer(int l, int t, int tl) {
            int farFromL = 0;
            int farFromT = 0;
            for (int shift = 0; shift < 32; shift += 8) {
                int left = part(l, shift);
                int top = part(t, shift);
                int p = left + top - part(tl, shift);
                farFromL += Math.abs(p - left);
                farFromT += Math.abs(p - top);
            }
            return farFromL < farFromT ? l : t;
        }

        static int slope(int l, int t, int tl) {
            int pixel = 0;
            for (int shift = 0; shift < 32; shift += 8) {
                int onward = part(l, shift) + part(t, shift) - part(tl, shift);
                pixel |= clamp(onward) << shift;
            }
            return pixel;
        }

        static int halfSlope(int average, int tl) {
            int pixel = 0;
            for (int shift = 0; shift < 32; shift += 8) {
                int middle = part(average, shift);
                int onward = middle + (middle - part(tl, shift)) / 2;
                pixel |= clamp(onward) << shift;
            }
            return pixel;
        }
    }

    /** The transforms that part colours, take green off, and write pixels by a palette. */
    private static final class Colours {
        static void putTogether(Plane image, Plane deltas) {
            for (int y = 0; y < image.height; y++) {
                for (int x = 0; x < image.width; x++) {
                    int place = y * image.width + x;
                    int block = deltas.pixels[Foretelling.blockOf(x, y, deltas)];
                    image.pixels[place] = together(image.pixels[place], block);
                }
            }
        }

        static int together(int pixel, int block) {
            int green = part(pixel, 8);
            int red = part(pixel, 16) + delta(block, green) & 255;
            int blue = part(pixel, 0) + delta(block >> 8, green) + delta(block >> 16, red) & 255;
            return pixel & 0xFF00FF00 | red << 16 | blue;
        }

        /** The shift rounds down, below 0 too. */
        static int delta(int t, int c) {
            return (byte) t * (byte) c >> 5;
        }

        static void putGreenOn(Plane image) {
            for (int i = 0; i < image.count(); i++) {
                int pixel = image.pixels[i];
                image.pixels[i] = sum(pixel, greenForOthers(pixel));
            }
        }

        static void takeGreenOff(Plane image) {
            for (int i = 0; i < image.count(); i++) {
                int pixel = image.pixels[i];
                image.pixels[i] = difference(pixel, greenForOthers(pixel));
            }
        }

        static int greenForOthers(int pixel) {
            return part(pixel, 8) * 0x00010001;
        }

        /** A packed pixel has 2 to the power of this many pixels: 8, 4 or 2. */
        static int packing(int colourCount) {
            return colourCount <= 2 ? 3 : colourCount <= 4 ? 2 : 1;
        }

        static int packedWidth(int width, int packing) {
            return width + (1 << packing) - 1 >> packing;
        }

        /** From the front on: a packed pixel never lands behind the first that it is made of. */
        static void pack(Plane image, int[] palette, int colourCount) {
            int packing = packing(colourCount);
            int packedWidth = packedWidth(image.width, packing);
            for (int y = 0; y < image.height; y++) {
                for (int x = 0; x < packedWidth; x++) {
                    int first = x << packing;
                    int count = Math.min(1 << packing, image.width - first);
                    int packed = 0;
                    for (int i = 0; i < count; i++) {
                        int colour = image.pixels[y * image.width + first + i];
                        packed |= numberOf(colour, palette, colourCount) << i * (8 >> packing);
                    }
                    image.pixels[y * packedWidth + x] = BLACK | packed << 8;
                }
            }
            image.width = packedWidth;
        }

        static int numberOf(int colour, int[] palette, int colourCount) {
            int number = 0;
            while (number < colourCount - 1 && palette[number] != colour) {
                number++;
            }
            return number;
        }

        /** From the end on: a pixel never lands before the packed one that it comes from. */
        static void unpack(Plane image, Plane palette, int width) {
            int packing = packing(palette.width);
            int bits = 8 >> packing;
            int packedWidth = image.width;
            for (int y = image.height - 1; y >= 0; y--) {
                for (int x = width - 1; x >= 0; x--) {
                    int packed = part(image.pixels[y * packedWidth + (x >> packing)], 8);
                    int inPacked = x & (1 << packing) - 1;
                    int number = packed >> inPacked * bits & (1 << bits) - 1;
                    image.pixels[y * width + x] = number < palette.width ? palette.pixels[number] : 0;
                }
            }
            image.width = width;
        }
    }

    /** The transforms of one stream with what belongs to them. */
    private static final class Transforms {
        final int[] kinds = new int[KINDS];
        final Plane modes = new Plane(MOST_BLOCKS);
        final Plane deltas = new Plane(MOST_BLOCKS);
        final Plane palette = new Plane(MOST_COLOURS);
        int widthBeforePalette = 1;
        int count;

        void clear() {
            count = 0;
        }

        boolean have(int kind) {
            for (int i = 0; i < count; i++) {
                if (kinds[i] == kind) {
                    return true;
                }
            }
            return false;
        }

        /** Answers the width of the image that comes behind the transform. */
        int take(Bits in, ImageReader reader, int width, int height) {
            int kind = in.number(2);
            if (have(kind) || count >= KINDS) {
                throw new IllegalArgumentException("a transform comes twice");
            }
            kinds[count] = kind;
            count++;
            if (kind == GREEN) {
                return width;
            }
            if (kind == PALETTE) {
                palette.shape(in.number(4) + 1, 1);
                reader.take(in, palette);
                sumUpPalette();
                widthBeforePalette = width;
                return Colours.packedWidth(width, Colours.packing(palette.width));
            }
            Plane blocks = kind == FORETELL ? modes : deltas;
            shapeBlocks(blocks, width, height);
            reader.take(in, blocks);
            return width;
        }

        void sumUpPalette() {
            for (int i = 1; i < palette.width; i++) {
                palette.pixels[i] = sum(palette.pixels[i], palette.pixels[i - 1]);
            }
        }

        static void shapeBlocks(Plane blocks, int width, int height) {
            blocks.shape((width + BLOCK - 1) / BLOCK, (height + BLOCK - 1) / BLOCK);
        }

        void undoAll(Plane image) {
            for (int i = count - 1; i >= 0; i--) {
                switch (kinds[i]) {
                    case FORETELL: Foretelling.putOn(image, modes); break;
                    case PART: Colours.putTogether(image, deltas); break;
                    case GREEN: Colours.putGreenOn(image); break;
                    default: Colours.unpack(image, palette, widthBeforePalette);
                }
            }
        }

        Plane paletteImage(int[] colours, int colourCount) {
            palette.shape(colourCount, 1);
            palette.pixels[0] = colours[0];
            for (int i = 1; i < colourCount; i++) {
                palette.pixels[i] = difference(colours[i], colours[i - 1]);
            }
            return palette;
        }

        Plane modeImage(Plane image, int mode) {
            shapeBlocks(modes, image.width, image.height);
            Arrays.fill(modes.pixels, BLACK | mode << 8);
            return modes;
        }
    }

    /** The colours that came, each at the place that its hash says. */
    private static final class Cache {
        final int[] colours = new int[MOST_COLOURS];
        int bits;

        void open(int newBits) {
            bits = newBits;
            Arrays.fill(colours, 0);
        }

        int colourCount() {
            return bits == 0 ? 0 : 1 << bits;
        }

        int placeOf(int pixel) {
            return bits == 0 ? 0 : 0x1E35A7BD * pixel >>> 32 - bits;
        }

        boolean has(int pixel) {
            return bits > 0 && colours[placeOf(pixel)] == pixel;
        }

        void keep(int pixel) {
            colours[placeOf(pixel)] = pixel;
        }
    }

    /** A code: the lengths of its symbols, and the words that follow from them. */
    private static final class Code {
        final int[] lengths;
        final int[] words;
        final int[] sorted;
        final int[] counts = new int[MOST_LENGTH + 1];
        final int[] nextPlace = new int[MOST_LENGTH + 1];
        final int[] nextWord = new int[MOST_LENGTH + 1];
        int symbols;
        int used;

        Code(int most) {
            lengths = new int[most];
            words = new int[most];
            sorted = new int[most];
        }

        void clear(int symbolCount) {
            symbols = symbolCount;
            Arrays.fill(lengths, 0);
        }

        /** Finds the words: whether the code is a good one. */
        boolean arrange() {
            countLengths();
            int place = 0;
            int word = 0;
            int room = 1 << MOST_LENGTH;
            for (int length = 1; length <= MOST_LENGTH; length++) {
                word *= 2;
                nextPlace[length] = place;
                nextWord[length] = word;
                place += counts[length];
                word += counts[length];
                room -= counts[length] << MOST_LENGTH - length;
            }
            for (int symbol = 0; symbol < symbols; symbol++) {
                int length = lengths[symbol];
                if (length > 0) {
                    sorted[nextPlace[length]++] = symbol;
                    words[symbol] = nextWord[length]++;
                }
            }
            return used == 1 || used > 0 && room == 0;
        }

        void countLengths() {
            Arrays.fill(counts, 0);
            for (int symbol = 0; symbol < symbols; symbol++) {
                counts[lengths[symbol]]++;
            }
            used = symbols - counts[0];
            counts[0] = 0;
        }

        int hear(Bits in) {
            if (used == 1) {
                return sorted[0];
            }
            int place = 0;
            int behindFirst = 0;
            for (int length = 1; length <= MOST_LENGTH; length++) {
                behindFirst = behindFirst * 2 + in.number(1);
                if (behindFirst < counts[length]) {
                    return sorted[place + behindFirst];
                }
                behindFirst -= counts[length];
                place += counts[length];
            }
            throw new IllegalArgumentException("no such word");
        }

        void say(Bits out, int symbol) {
            int length = used == 1 ? 0 : lengths[symbol];
            for (int i = length - 1; i >= 0; i--) {
                out.putBit(words[symbol] >> i & 1);
            }
        }

        /** Gives all symbols that have a length lengths as even as can be. */
        void balance() {
            countLengths();
            int most = 0;
            while (most < MOST_LENGTH && 1 << most < used) {
                most++;
            }
            int shorter = (1 << most) - used;
            for (int symbol = 0; symbol < symbols; symbol++) {
                if (lengths[symbol] > 0) {
                    lengths[symbol] = used == 1 ? 1 : shorter > 0 ? most - 1 : most;
                    shorter--;
                }
            }
        }
    }

    /** The five codes of an image, and the numbers that prefixes say. */
    private static final class Codes {
        static final int G = 0;
        static final int R = 1;
        static final int B = 2;
        static final int A = 3;
        static final int D = 4;
        static final int ALL = 5;

        final Code green = new Code(MOST_SYMBOLS);
        final Code red = new Code(LITERALS);
        final Code blue = new Code(LITERALS);
        final Code alpha = new Code(LITERALS);
        final Code distance = new Code(PREFIXES);

        Code of(int which) {
            switch (which) {
                case G: return green;
                case R: return red;
                case B: return blue;
                case A: return alpha;
                default: return distance;
            }
        }

        void clear(int cacheColours) {
            green.clear(FIRST_CACHED + cacheColours);
            red.clear(LITERALS);
            blue.clear(LITERALS);
            alpha.clear(LITERALS);
            distance.clear(PREFIXES);
        }

        static int bitsBehind(int prefix) {
            return prefix < 4 ? 0 : prefix / 2 - 1;
        }

        static int leastNumber(int prefix) {
            return prefix < 4 ? prefix + 1 : (2 + prefix % 2 << prefix / 2 - 1) + 1;
        }

        static int prefixOf(int number) {
            int prefix = 0;
            while (prefix < PREFIXES - 1 && leastNumber(prefix + 1) <= number) {
                prefix++;
            }
            return prefix;
        }
    }

    /** Reads codes and, by them, images. */
    private static final class ImageReader {
        final Codes codes;
        final Cache cache;
        final Code small = new Code(SMALL_SYMBOLS);
        int copies;
        int cached;

        ImageReader(Codes codes, Cache cache) {
            this.codes = codes;
            this.cache = cache;
        }

        /** Fills an image whose width and height are known. */
        void take(Bits in, Plane image) {
            copies = 0;
            cached = 0;
            cache.open(in.bit() == 1 ? in.number(2) + 1 : 0);
            codes.clear(cache.colourCount());
            for (int which = 0; which < Codes.ALL; which++) {
                takeCode(in, codes.of(which));
            }
            int total = image.count();
            int done = 0;
            for (int turn = 0; turn < total && done < total; turn++) {
                done += takePixels(in, image, done);
            }
        }

        /** Answers how many pixels came, one at least. */
        int takePixels(Bits in, Plane image, int done) {
            int symbol = codes.green.hear(in);
            if (symbol >= LITERALS && symbol < FIRST_CACHED) {
                return takeCopy(in, symbol - LITERALS, image, done);
            }
            int pixel;
            if (symbol < LITERALS) {
                int red = codes.red.hear(in);
                int blue = codes.blue.hear(in);
                pixel = codes.alpha.hear(in) << 24 | red << 16 | symbol << 8 | blue;
            } else {
                pixel = cache.colours[symbol - FIRST_CACHED];
                cached++;
            }
            image.pixels[done] = pixel;
            cache.keep(pixel);
            return 1;
        }

        int takeCopy(Bits in, int prefix, Plane image, int done) {
            int length = takeNumber(in, prefix);
            int distance = distanceOf(takeNumber(in, codes.distance.hear(in)), image.width);
            if (distance > done || length > image.count() - done) {
                throw new IllegalArgumentException("a copy from or to outside the image");
            }
            for (int i = done; i < done + length; i++) {
                image.pixels[i] = image.pixels[i - distance];
                cache.keep(image.pixels[i]);
            }
            copies++;
            return length;
        }

        static int takeNumber(Bits in, int prefix) {
            return Codes.leastNumber(prefix) + in.number(Codes.bitsBehind(prefix));
        }

        static int distanceOf(int k, int width) {
            return k > NEAR ? k - NEAR : Math.max(1, NEAR_X[k - 1] + NEAR_Y[k - 1] * width);
        }

        void takeCode(Bits in, Code code) {
            if (in.bit() == 1) {
                takeFew(in, code);
            } else {
                takeSmall(in);
                takeLengths(in, code);
            }
            if (!code.arrange()) {
                throw new IllegalArgumentException("too many words, or too few");
            }
        }

        static void takeFew(Bits in, Code code) {
            boolean two = in.bit() == 1;
            int first = in.number(in.bit() == 1 ? 8 : 1);
            int second = two ? in.number(8) : first;
            if (first >= code.symbols || second >= code.symbols || two && first == second) {
                throw new IllegalArgumentException("no such symbols");
            }
            code.lengths[first] = 1;
            code.lengths[second] = 1;
        }

        void takeSmall(Bits in) {
            small.clear(SMALL_SYMBOLS);
            int count = in.number(4) + 4;
            for (int i = 0; i < count; i++) {
                small.lengths[SMALL_ORDER[i]] = in.number(3);
            }
            if (!small.arrange()) {
                throw new IllegalArgumentException("too many words, or too few, in a small code");
            }
        }

        void takeLengths(Bits in, Code code) {
            int latest = 8;
            int count = 0;
            for (int turn = 0; turn < code.symbols && count < code.symbols; turn++) {
                int symbol = small.hear(in);
                int length = symbol < 16 ? symbol : symbol == 16 ? latest : 0;
                int times = takeTimes(in, symbol);
                if (times > code.symbols - count) {
                    throw new IllegalArgumentException("too many lengths");
                }
                Arrays.fill(code.lengths, count, count + times, length);
                count += times;
                latest = length > 0 ? length : latest;
            }
        }

        static int takeTimes(Bits in, int symbol) {
            switch (symbol) {
                case 16: return 3 + in.number(2);
                case 17: return 3 + in.number(3);
                case 18: return 11 + in.number(7);
                default: return 1;
            }
        }
    }

    /** Makes up what an image is said by, then writes its codes and says it. */
    private static final class ImageWriter {
        final Codes codes;
        final Cache cache;
        final CodeWriter codeWriter = new CodeWriter();
        /** A pixel takes four symbols at most. */
        final int[] which = new int[4 * MOST_SIDE * MOST_SIDE];
        final int[] symbols = new int[4 * MOST_SIDE * MOST_SIDE];
        final int[] behind = new int[4 * MOST_SIDE * MOST_SIDE];
        int count;
        int copies;
        int cached;
        int copyLength;
        int copyDistance;

        ImageWriter(Codes codes, Cache cache) {
            this.codes = codes;
            this.cache = cache;
        }

        void say(Bits out, Plane image, int cacheBits) {
            cache.open(cacheBits);
            codes.clear(cache.colourCount());
            makeUp(image);
            out.put(cacheBits == 0 ? 0 : 1, 1);
            if (cacheBits > 0) {
                out.put(cacheBits - 1, 2);
            }
            for (int i = 0; i < Codes.ALL; i++) {
                codeWriter.say(out, codes.of(i));
            }
            for (int i = 0; i < count; i++) {
                codes.of(which[i]).say(out, symbols[i]);
                out.put(behind[i], bitsBehind(which[i], symbols[i]));
            }
        }

        static int bitsBehind(int code, int symbol) {
            if (code == Codes.D) {
                return Codes.bitsBehind(symbol);
            }
            boolean isLength = code == Codes.G && symbol >= LITERALS && symbol < FIRST_CACHED;
            return isLength ? Codes.bitsBehind(symbol - LITERALS) : 0;
        }

        void makeUp(Plane image) {
            count = 0;
            copies = 0;
            cached = 0;
            int total = image.count();
            int done = 0;
            for (int turn = 0; turn < total && done < total; turn++) {
                findCopy(image, done);
                int step = copyLength >= LEAST_COPY ? copyLength : 1;
                if (step > 1) {
                    noteCopy();
                } else {
                    notePixel(image.pixels[done]);
                }
                for (int i = done; i < done + step; i++) {
                    cache.keep(image.pixels[i]);
                }
                done += step;
            }
        }

        /** The longest copy that can begin here, of the least distance. */
        void findCopy(Plane image, int from) {
            copyLength = 0;
            copyDistance = 0;
            int most = image.count() - from;
            for (int distance = 1; distance <= from; distance++) {
                int length = 0;
                while (length < most
                        && image.pixels[from + length] == image.pixels[from + length - distance]) {
                    length++;
                }
                if (length > copyLength) {
                    copyLength = length;
                    copyDistance = distance;
                }
            }
        }

        void noteCopy() {
            int prefix = Codes.prefixOf(copyLength);
            note(Codes.G, LITERALS + prefix, copyLength - Codes.leastNumber(prefix));
            int k = copyDistance + NEAR;
            prefix = Codes.prefixOf(k);
            note(Codes.D, prefix, k - Codes.leastNumber(prefix));
            copies++;
        }

        void notePixel(int pixel) {
            if (cache.has(pixel)) {
                note(Codes.G, FIRST_CACHED + cache.placeOf(pixel), 0);
                cached++;
                return;
            }
            note(Codes.G, part(pixel, 8), 0);
            note(Codes.R, part(pixel, 16), 0);
            note(Codes.B, part(pixel, 0), 0);
            note(Codes.A, part(pixel, 24), 0);
        }

        void note(int code, int symbol, int numberBehind) {
            which[count] = code;
            symbols[count] = symbol;
            behind[count] = numberBehind;
            count++;
            codes.of(code).lengths[symbol] = 1;
        }
    }

    /** Writes codes, whose symbols that are used have some length. */
    private static final class CodeWriter {
        /** Says that the small code has lengths for all of its symbols. */
        static final int ALL_SMALL = 15;
        static final int SHORT_RUN = 17;
        static final int LONG_RUN = 18;

        final Code small = new Code(SMALL_SYMBOLS);
        final int[] said = new int[MOST_SYMBOLS];
        final int[] times = new int[MOST_SYMBOLS];
        int count;

        void say(Bits out, Code code) {
            code.balance();
            if (code.used == 0) {
                code.lengths[0] = 1;
            }
            code.arrange();
            boolean few = code.used <= 2 && code.sorted[code.used - 1] < LITERALS;
            out.put(few ? 1 : 0, 1);
            if (few) {
                sayFew(out, code);
            } else {
                gatherLengths(code);
                saySmall(out);
                sayLengths(out);
            }
        }

        static void sayFew(Bits out, Code code) {
            out.put(code.used - 1, 1);
            out.put(1, 1);
            for (int i = 0; i < code.used; i++) {
                out.put(code.sorted[i], 8);
            }
        }

        void gatherLengths(Code code) {
            count = 0;
            small.clear(SMALL_SYMBOLS);
            int zeros = 0;
            for (int symbol = 0; symbol < code.symbols; symbol++) {
                if (code.lengths[symbol] == 0) {
                    zeros++;
                } else {
                    gatherZeros(zeros);
                    zeros = 0;
                    gather(code.lengths[symbol], 1);
                }
            }
            gatherZeros(zeros);
        }

        void gatherZeros(int zeros) {
            int left = zeros;
            while (left > 0) {
                int many = left >= 11 ? Math.min(left, 138) : left >= 3 ? Math.min(left, 10) : 1;
                gather(many >= 11 ? LONG_RUN : many >= 3 ? SHORT_RUN : 0, many);
                left -= many;
            }
        }

        void gather(int symbol, int many) {
            said[count] = symbol;
            times[count] = many;
            count++;
            small.lengths[symbol] = 1;
        }

        void saySmall(Bits out) {
            small.balance();
            small.arrange();
            out.put(ALL_SMALL, 4);
            for (int i = 0; i < SMALL_SYMBOLS; i++) {
                out.put(small.lengths[SMALL_ORDER[i]], 3);
            }
        }

        void sayLengths(Bits out) {
            for (int i = 0; i < count; i++) {
                small.say(out, said[i]);
                if (said[i] == SHORT_RUN) {
                    out.put(times[i] - 3, 3);
                }
                if (said[i] == LONG_RUN) {
                    out.put(times[i] - 11, 7);
                }
            }
        }
    }
}
