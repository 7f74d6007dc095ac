import java.util.Random;

/** "An object is used for at most 512 calls": the last of them answers as well as the first. */
public final class LongUseTest {
    private static int calls;

    public static void main(String[] args) {
        for (int seed = 0; seed < 20; seed++) {
            allCalls(new Random(seed));
        }
        onlyReads();
        onlyWrites();
        Check.end();
    }

    /** Rounds of ten calls each, in which all methods come, and two calls more. */
    private static void allCalls(Random random) {
        LosslessPixels x = new LosslessPixels();
        calls = 0;
        int bytes = 0;
        for (int round = 0; round < 51; round++) {
            int w = 1 + random.nextInt(8);
            int h = 1 + random.nextInt(8);
            int[] pixels = new int[w * h];
            int at = random.nextInt(w * h);
            pixels[at] = random.nextInt();
            boolean green = random.nextBoolean();
            int mode = random.nextInt(15) - 1;
            int cache = random.nextInt(5);
            Reference.Result due = Reference.encode(w, h, pixels, true, green, mode, cache);
            bytes = (due.count + 7) / 8;
            answered("size", w * h, x.size(w, h));
            answered("set", 0, x.set(at % w, at / w, pixels[at]));
            answered("write", due.count, x.write(true, green, mode, cache));
            answered("flip", 0, x.flip(0));
            answered("flip back", 1, x.flip(0));
            answered("byteAt", 47, x.byteAt(0));
            answered("read", due.count, x.read());
            answered("pixel", pixels[at], x.pixel(at % w, at / w));
            answered("measure", pixels[at] == 0 || w * h == 1 ? 1 : 2, x.measure(2));
            answered("had", 1, x.had(3));
        }
        answered("wipe", bytes, x.wipe());
        answered("feed", 1, x.feed(7, 1));
        Check.same("calls", 512, calls);
    }

    private static void answered(String call, int due, int got) {
        calls++;
        Check.same("call " + calls + ", " + call, due, got);
    }

    private static void onlyReads() {
        Say say = Say.picture(8, 8).transform(0).plainImage(0x500).transform(2).noMoreTransforms()
                .plainImage(0x01020304);
        LosslessPixels x = new LosslessPixels();
        say.feedTo(x);
        int fed = (say.count() + 63) / 64;
        for (int i = fed; i < 511; i++) {
            Check.same("read " + i, say.count(), x.read());
        }
        Check.same("call 512", 8, x.measure(0));
    }

    private static void onlyWrites() {
        LosslessPixels x = new LosslessPixels();
        Check.same("size", 64, x.size(8, 8));
        int first = x.write(true, true, 5, 4);
        for (int i = 2; i < 511; i++) {
            Check.same("write " + i, first, x.write(true, true, 5, 4));
        }
        Check.same("call 512", first, x.read());
    }
}
