import java.nio.file.Files;
import java.nio.file.Path;

/**
 * Promise 11: a picture that would take more bytes than a stream can have. No picture takes 700
 * (README.md counts why), so this test runs by a copy of the class whose streams have 11 at most.
 */
public final class LimitTest {
    private static final String LIMIT = "MOST_BYTES = 700;";
    private static final String LESS = "MOST_BYTES = 11;";

    public static void main(String[] args) throws Exception {
        if (args.length == 0) {
            runByCopy();
        } else {
            copyIsLimited();
            elevenBytes();
            twelveBytes();
            manyBytes();
        }
        Check.end();
    }

    private static void runByCopy() throws Exception {
        String source = Files.readString(Path.of("src/main/java/LosslessPixels.java"));
        if (!source.contains(LIMIT)) {
            System.out.println("not tried: the class does not tell its limit by " + LIMIT);
            return;
        }
        Compiled.use("LosslessPixels", source.replace(LIMIT, LESS), loader -> loader
                .loadClass("LimitTest").getMethod("main", String[].class)
                .invoke(null, (Object) new String[] {"by the copy"}));
    }

    private static void copyIsLimited() {
        LosslessPixels x = new LosslessPixels();
        Check.same("eight", 8, x.feed(1, 8));
        Check.same("eleven", 11, x.feed(1, 3));
        Check.same("no twelfth", LosslessPixels.NONE, x.feed(1, 1));
    }

    /** A picture without copies that takes 79 bits and one for each pixel. */
    private static LosslessPixels picture(int w, int h) {
        LosslessPixels x = new LosslessPixels();
        x.size(w, h);
        for (int i = 0; i < w * h; i++) {
            x.set(i % w, i / w, "0001011100".charAt(i) - '0' << 24);
        }
        return x;
    }

    private static void elevenBytes() {
        LosslessPixels x = picture(3, 3);
        Check.answers("88 bits", 88, () -> x.write(false, false, -1, 0));
        Check.same("eleven bytes", 11, Say.bitsOf(x).length() / 8);
        Check.same("had", "0 0 0 0 0 0 0 ", Say.hadOf(x));
        x.size(1, 1);
        Check.answers("read again", 88, x::read);
        Check.same("the picture again", Say.pictureOf(picture(3, 3)), Say.pictureOf(x));
    }

    /** "IllegalStateException when it would be more than 700 bytes: the stream stays as it was." */
    private static void twelveBytes() {
        Class<?> due = IllegalStateException.class;
        LosslessPixels empty = picture(5, 2);
        Whole.refused(due, "89 bits", empty, () -> empty.write(false, false, -1, 0));
        LosslessPixels fed = picture(5, 2);
        fed.feed(0x123456, 3);
        Whole.refused(due, "89 bits, behind others", fed, () -> fed.write(false, false, -1, 0));
        LosslessPixels x = picture(3, 3);
        x.write(false, false, -1, 0);
        x.set(2, 2, 0x00010101);
        Whole.refused(due, "a pixel more", x, () -> x.write(false, true, -1, 0));
        Whole.refused(due, "a cache more", x, () -> x.write(false, false, -1, 4));
        Check.answers("what was written is read", 88, x::read);
        Check.same("and is as it was", Say.pictureOf(picture(3, 3)), Say.pictureOf(x));
    }

    private static void manyBytes() {
        LosslessPixels x = new LosslessPixels();
        x.size(8, 8);
        for (int i = 0; i < 64; i++) {
            x.set(i % 8, i / 8, i * 0x04030201);
        }
        for (int i = -1; i <= 13; i++) {
            int mode = i;
            Check.throwsExactly(IllegalStateException.class, "mode " + mode,
                    () -> x.write(false, mode % 2 == 0, mode, 4));
        }
        Check.throwsExactly(IllegalArgumentException.class, "too many colours come first",
                () -> x.write(true, false, -1, 0));
        Check.same("nothing was had", LosslessPixels.NONE, x.had(0));
        Check.same("nothing is in the stream", 0, x.wipe());
    }
}
