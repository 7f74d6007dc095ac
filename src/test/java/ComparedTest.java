import java.util.Random;

/** Promises 10, 11 and 12 on many streams and pictures, compared with a second program. */
public final class ComparedTest {
    private static final String USED_PICTURE = Say.pictureOf(Whole.used());
    private static final String USED_HAD = Say.hadOf(Whole.used());
    private static int good;
    private static int bad;

    public static void main(String[] args) {
        for (int seed = 0; seed < 1500; seed++) {
            readStreams(new Random(seed), "streams by seed " + seed);
        }
        Check.isTrue("good streams come often enough: " + good, good > 1000);
        Check.isTrue("bad streams come often enough: " + bad, bad > 1000);
        for (int seed = 0; seed < 400; seed++) {
            writePictures(new Random(seed), "pictures by seed " + seed);
        }
        writeByAllArguments();
        Check.end();
    }

    private static void readStreams(Random random, String name) {
        String stream = RandomStream.make(random);
        if (stream.length() > 5600) {
            return;
        }
        compareRead(stream, name);
        for (int i = 0; i < 4; i++) {
            StringBuilder changed = new StringBuilder(stream);
            for (int k = random.nextInt(2); k >= 0; k--) {
                int at = random.nextInt(changed.length());
                changed.setCharAt(at, changed.charAt(at) == '0' ? '1' : '0');
            }
            compareRead(changed.toString(), name + ", changed");
        }
        compareRead(stream.substring(0, random.nextInt(stream.length())), name + ", cut off");
    }

    private static void compareRead(String stream, String name) {
        // The object's stream ends with a whole byte, so the other program gets the same zeros.
        String whole = Say.whole(stream);
        LosslessPixels object = Whole.used();
        object.wipe();
        Say.feed(whole, object);
        Reference.Result due;
        try {
            due = Reference.decode(whole);
        } catch (Reference.Bad e) {
            bad++;
            Check.bad(name, object::read);
            Check.same(name + ": the picture stays", USED_PICTURE, Say.pictureOf(object));
            Check.same(name + ": what was had stays", USED_HAD, Say.hadOf(object));
            streamStays(name, whole, object);
            return;
        }
        good++;
        Check.answers(name + ": bits", due.count, object::read);
        Check.same(name + ": picture", due.picture, Say.pictureOf(object));
        Check.same(name + ": had", due.had, Say.hadOf(object));
        streamStays(name, whole, object);
    }

    /** Of a long stream only the beginning is looked at, as an object takes but so many calls. */
    private static void streamStays(String name, String due, LosslessPixels object) {
        String begin = due.substring(0, Math.min(due.length(), 8 * 250));
        Check.same(name + ": the stream stays", begin, Say.bitsOf(object, begin.length()));
        Check.same(name + ": no byte more or less", due.length() / 8, object.wipe());
    }

    private static void writePictures(Random random, String name) {
        int w = 1 + random.nextInt(8);
        int h = 1 + random.nextInt(8);
        int[] pixels = pixels(random, w * h);
        for (int i = 0; i < 12; i++) {
            Asked asked = new Asked(random.nextInt(3) == 0, random.nextBoolean(),
                    random.nextInt(15) - 1, random.nextInt(5));
            compareWrite(name, w, h, pixels, asked);
        }
    }

    /** One picture of 16 colours by all that can be asked for. */
    private static void writeByAllArguments() {
        int[] pixels = new int[42];
        for (int i = 0; i < 42; i++) {
            pixels[i] = i * i * i % 16 * 0x91B3D5F7;
        }
        for (int i = 0; i < 300; i++) {
            Asked asked = new Asked(i % 2 == 1, i / 2 % 2 == 1, i / 4 % 15 - 1, i / 60);
            compareWrite("all arguments", 7, 6, pixels, asked);
        }
    }

    /** What a write is asked for. */
    private record Asked(boolean palette, boolean green, int mode, int cache) {
        int by(LosslessPixels object) {
            return object.write(palette, green, mode, cache);
        }

        Reference.Result byReference(int w, int h, int[] pixels) {
            return Reference.encode(w, h, pixels, palette, green, mode, cache);
        }
    }

    private static void compareWrite(String name, int w, int h, int[] pixels, Asked asked) {
        LosslessPixels object = new LosslessPixels();
        object.size(w, h);
        for (int i = 0; i < w * h; i++) {
            object.set(i % w, i / w, pixels[i]);
        }
        String picture = Reading.picture(w, h, pixels);
        String call = name + ": " + asked;
        Reference.Result due = asked.byReference(w, h, pixels);
        if (due == null) {
            Whole.refused(IllegalArgumentException.class, call, object, () -> asked.by(object));
            return;
        }
        Check.answers(call, due.count, () -> asked.by(object));
        Check.same(call + ": had", due.had, Say.hadOf(object));
        Check.same(call + ": the picture stays", picture, Say.pictureOf(object));
        object.size(1, 1);
        Check.answers(call + ": read again", due.count, object::read);
        Check.same(call + ": what was read", picture, Say.pictureOf(object));
        Check.same(call + ": had by reading", due.had, Say.hadOf(object));
        streamStays(call, Say.whole(due.bits), object);
    }

    /** Pictures with few colours, with runs, and with many colours. */
    private static int[] pixels(Random random, int count) {
        int[] colours = new int[1 + random.nextInt(random.nextInt(3) == 0 ? 64 : 8)];
        boolean alike = random.nextBoolean();
        for (int i = 0; i < colours.length; i++) {
            colours[i] = alike ? random.nextInt() & 0x83070503 : random.nextInt();
        }
        boolean runs = random.nextBoolean();
        int[] pixels = new int[count];
        for (int i = 0; i < count; i++) {
            boolean again = runs && i > 0 && random.nextInt(4) > 0;
            int from = again ? 1 + random.nextInt(Math.min(i, 8)) : 0;
            pixels[i] = again ? pixels[i - from] : colours[random.nextInt(colours.length)];
        }
        return pixels;
    }
}
