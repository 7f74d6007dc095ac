import java.util.Random;

/** Promises 10, 11 and 12 on many streams and pictures, compared with a second program. */
public final class ComparedTest {
    private static int good;
    private static int bad;

    public static void main(String[] args) {
        for (int seed = 0; seed < 1500; seed++) {
            readStreams(new Random(seed), "streams by seed " + seed);
        }
        Check.isTrue("good streams come often enough: " + good, good > 1000);
        Check.isTrue("bad streams come often enough: " + bad, bad > 1000);
        for (int seed = 0; seed < 400; seed++) {
            writePictures(new Random(seed), "pictures by seed " + seed);
        }
        Check.end();
    }

    private static void readStreams(Random random, String name) {
        String stream = RandomStream.make(random);
        if (stream.length() > 5600) {
            return;
        }
        LosslessPixels object = new LosslessPixels();
        compareRead(object, stream, name);
        for (int i = 0; i < 4; i++) {
            StringBuilder changed = new StringBuilder(stream);
            for (int k = random.nextInt(2); k >= 0; k--) {
                int at = random.nextInt(changed.length());
                changed.setCharAt(at, changed.charAt(at) == '0' ? '1' : '0');
            }
            compareRead(object, changed.toString(), name + ", changed");
        }
        compareRead(object, stream.substring(0, random.nextInt(stream.length())), name + ", cut off");
    }

    private static void compareRead(LosslessPixels object, String stream, String name) {
        // The object's stream ends with a whole byte, so the other program gets the same zeros.
        String whole = stream + "0".repeat((8 - stream.length() % 8) % 8);
        object.wipe();
        Say.feed(whole, object);
        String pictureBefore = Say.pictureOf(object);
        String hadBefore = Say.hadOf(object);
        Reference.Result due;
        try {
            due = Reference.decode(whole);
        } catch (Reference.Bad e) {
            bad++;
            Check.bad(name, object::read);
            Check.same(name + ": the picture stays", pictureBefore, Say.pictureOf(object));
            Check.same(name + ": what was had stays", hadBefore, Say.hadOf(object));
            Check.same(name + ": the stream stays", whole, Say.bitsOf(object, whole.length()));
            return;
        }
        good++;
        Check.same(name + ": bits", due.count, object.read());
        Check.same(name + ": picture", due.picture, Say.pictureOf(object));
        Check.same(name + ": had", due.had, Say.hadOf(object));
        Check.same(name + ": the stream stays", whole, Say.bitsOf(object, whole.length()));
    }

    private static void writePictures(Random random, String name) {
        LosslessPixels object = new LosslessPixels();
        int w = 1 + random.nextInt(8);
        int h = 1 + random.nextInt(8);
        int[] pixels = pixels(random, w * h);
        object.size(w, h);
        for (int i = 0; i < w * h; i++) {
            object.set(i % w, i / w, pixels[i]);
        }
        String picture = Say.pictureOf(object);
        for (int i = 0; i < 12; i++) {
            boolean palette = random.nextInt(3) == 0;
            boolean green = random.nextBoolean();
            int mode = random.nextInt(15) - 1;
            int cache = random.nextInt(5);
            String call = name + ": write(" + palette + ", " + green + ", " + mode + ", " + cache + ")";
            Reference.Result due = Reference.encode(w, h, pixels, palette, green, mode, cache);
            if (due == null) {
                String before = Say.bitsOf(object, 5600);
                Check.bad(call, () -> object.write(palette, green, mode, cache));
                Check.same(call + ": the stream stays", before, Say.bitsOf(object, 5600));
                continue;
            }
            Check.same(call, due.count, object.write(palette, green, mode, cache));
            Check.same(call + ": bits", due.bits, Say.bitsOf(object, due.count));
            Check.same(call + ": had", due.had, Say.hadOf(object));
            Check.same(call + ": no byte more", -1, object.byteAt((due.count + 7) / 8));
            Check.same(call + ": the picture stays", picture, Say.pictureOf(object));
            object.size(1, 1);
            Check.same(call + ": read again", due.count, object.read());
            Check.same(call + ": what was read", picture, Say.pictureOf(object));
            Check.same(call + ": had by reading", due.had, Say.hadOf(object));
        }
    }

    /** Pictures with few colours, with runs, and with many colours. */
    private static int[] pixels(Random random, int count) {
        int[] colours = new int[1 + random.nextInt(random.nextInt(3) == 0 ? 64 : 8)];
        boolean alike = random.nextBoolean();
        for (int i = 0; i < colours.length; i++) {
            colours[i] = alike ? random.nextInt() & 0x83070503 : random.nextInt();
        }
        boolean runs = random.nextBoolean();
        int[] pixels = new int[count];
        for (int i = 0; i < count; i++) {
            boolean again = runs && i > 0 && random.nextInt(4) > 0;
            int from = again ? 1 + random.nextInt(Math.min(i, 8)) : 0;
            pixels[i] = again ? pixels[i - from] : colours[random.nextInt(colours.length)];
        }
        return pixels;
    }
}
