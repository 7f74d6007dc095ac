/** Streams made by hand, each read by a new object, and what several of them begin with. */
final class Reading {
    /** Bits enough behind what is wrong, so that it is not the end that makes the stream bad. */
    private static final String MORE = "0010110001001000111111110000000001010101".repeat(16);

    private Reading() {}

    /** The stream is read to its last bit, to this picture; its bytes stay. */
    static LosslessPixels good(String what, Say say, String picture) {
        LosslessPixels x = new LosslessPixels();
        Check.answers(what + ": bits", say.count(), () -> say.readBy(x));
        Check.same(what, picture, Say.pictureOf(x));
        Check.same(what + ": the stream stays", Say.whole(say.text()), Say.bitsOf(x));
        return x;
    }

    /** The stream is bad, not by its end: the picture, the stream and what was had stay. */
    static void bad(String what, Say say) {
        LosslessPixels x = new LosslessPixels();
        x.size(2, 1);
        x.set(1, 0, 77);
        Say.feed(say.text() + MORE, x);
        Check.bad(what, x::read);
        Check.same(what + ": the picture stays", "2x1 0 4d", Say.pictureOf(x));
        Check.same(what + ": the stream stays", Say.whole(say.text() + MORE), Say.bitsOf(x));
        Check.same(what + ": nothing was had", LosslessPixels.NONE, x.had(0));
    }

    static Say start(int w, int h) {
        return Say.picture(w, h).noMoreTransforms();
    }

    static Say copyOf(Say say) {
        return new Say().raw(say.text());
    }

    /** The four other codes, behind one for G. */
    static Say four(Say say) {
        return say.one(0).one(0).one(0).one(0);
    }

    /**
     * Five codes: G has 0 .. 127 by a 1 and 7 bits, and one prefix of a length by 0; D has one
     * prefix, by no bits.
     */
    static Say copying(Say say, int prefix, int distancePrefix) {
        int[] lengths = new int[2 * 129];
        for (int i = 0; i < 128; i++) {
            lengths[2 * i] = i;
            lengths[2 * i + 1] = 8;
        }
        lengths[256] = 256 + prefix;
        lengths[257] = 1;
        return say.code(280, lengths).one(0).one(0).one(0).one(distancePrefix);
    }

    /** A picture of pixels that have nothing but these greens. */
    static String greens(int w, int h, int... greens) {
        StringBuilder text = new StringBuilder(w + "x" + h);
        for (int green : greens) {
            text.append(' ').append(Integer.toHexString(green * 256));
        }
        return text.toString();
    }

    static String picture(int w, int h, int... pixels) {
        StringBuilder text = new StringBuilder(w + "x" + h);
        for (int pixel : pixels) {
            text.append(' ').append(Integer.toHexString(pixel));
        }
        return text.toString();
    }

    /** Where a cache of 2 to the power of these bits puts a pixel. */
    static int place(int pixel, int bits) {
        return (int) ((0x1E35A7BDL * (pixel & 0xFFFFFFFFL) & 0xFFFFFFFFL) >> 32 - bits);
    }
}
