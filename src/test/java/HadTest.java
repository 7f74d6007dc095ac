/** Promise 12: what the latest read or write had. */
public final class HadTest {
    public static void main(String[] args) {
        numbers();
        noneWhenRefused();
        otherCallsChangeNothing();
        writtenThenRead();
        ofReading();
        ofItsImageAlone();
        ofWriting();
        latestThatWasDone();
        Check.end();
    }

    /** "NONE for other numbers, or when there was none." */
    private static void numbers() {
        LosslessPixels x = new LosslessPixels();
        int[] others = {-1, 7, 8, 256, -256, Integer.MIN_VALUE, Integer.MAX_VALUE};
        for (int what : others) {
            Check.same("nothing yet: " + what, LosslessPixels.NONE, x.had(what));
        }
        Check.same("nothing yet", "-1 -1 -1 -1 -1 -1 -1 ", Say.hadOf(x));
        x.write(false, false, -1, 0);
        Check.same("a write of nothing", "0 0 0 0 0 0 0 ", Say.hadOf(x));
        for (int what : others) {
            Check.same("another number: " + what, LosslessPixels.NONE, x.had(what));
        }
    }

    /** "Of the latest read or write that was done": none was when it was refused. */
    private static void noneWhenRefused() {
        LosslessPixels x = new LosslessPixels();
        Check.bad("a read of nothing", x::read);
        Check.same("no read", "-1 -1 -1 -1 -1 -1 -1 ", Say.hadOf(x));
        Check.bad("a write of no mode", () -> x.write(true, true, 14, 4));
        Check.bad("a write of no cache", () -> x.write(true, true, 13, 5));
        Check.same("no write", "-1 -1 -1 -1 -1 -1 -1 ", Say.hadOf(x));
        x.size(8, 8);
        for (int i = 0; i < 64; i++) {
            x.set(i % 8, i / 8, i);
        }
        Check.bad("a write of too many colours", () -> x.write(true, true, 13, 4));
        Check.same("still none", "-1 -1 -1 -1 -1 -1 -1 ", Say.hadOf(x));
        // All transforms, a cache, copies and pixels by the cache, and a copy too many.
        Say say = said(7).cache(4).code(296, 0, 1, 256, 2, 280, 2).one(0).one(0).one(0).one(39);
        Check.bad("a read up to its last copy", () -> say.raw("0 11 11 10").number(0, 18).readBy(x));
        Check.same("none at last", "-1 -1 -1 -1 -1 -1 -1 ", Say.hadOf(x));
    }

    private static void otherCallsChangeNothing() {
        LosslessPixels x = Whole.used();
        String had = Say.hadOf(x);
        Check.same("what was had", "1 0 1 1 4 ", had.substring(0, 10));
        x.size(3, 3);
        x.set(0, 0, 4);
        x.pixel(0, 0);
        x.measure(2);
        x.feed(3, 1);
        x.flip(0);
        x.byteAt(0);
        x.had(9);
        x.wipe();
        Check.same("other calls change nothing", had, Say.hadOf(x));
    }

    /** A stream that was written had, when it is read, what it had when it was written. */
    private static void writtenThenRead() {
        for (int asked = 0; asked < 32; asked++) {
            LosslessPixels x = new LosslessPixels();
            x.size(4, 3);
            for (int i = 0; i < 8; i++) {
                x.set(i % 4, i / 4, i % 3 * 0x00010203);
            }
            x.write(asked % 2 == 1, asked / 2 % 2 == 1, asked / 4 % 2 == 1 ? 6 : -1, asked / 8);
            String had = Say.hadOf(x);
            x.read();
            Check.same("asked " + asked, had, Say.hadOf(x));
        }
    }

    private static Say said(int kinds) {
        Say say = Say.picture(2, 2);
        for (int kind = 0; kind < 4; kind++) {
            if ((kinds >> kind & 1) == 1) {
                say.plainTransform(kind);
            }
        }
        return say.noMoreTransforms();
    }

    private static void ofReading() {
        LosslessPixels x = new LosslessPixels();
        for (int kinds = 0; kinds < 16; kinds++) {
            said(kinds).plainImage(0).readBy(x);
            for (int kind = 0; kind < 4; kind++) {
                Check.same("kinds " + kinds + ", had " + kind, kinds >> kind & 1, x.had(kind));
            }
        }
        for (int bits = 1; bits <= 4; bits++) {
            said(0).cache(bits).one(0).one(0).one(0).one(0).one(0).readBy(x);
            Check.same("a cache that is not used", "0 0 0 0 " + (1 << bits) + " 0 0 ", Say.hadOf(x));
        }
        // A pixel 0, a copy of one (distance 1 by k = 2), two colours of the cache.
        Say say = said(0).cache(2).code(284, 0, 1, 256, 2, 280, 2).one(0).one(0).one(0).one(1);
        say.raw("0 10 11 11").readBy(x);
        Check.same("copies and pixels by the cache", "0 0 0 0 4 1 2 ", Say.hadOf(x));
        said(0).cache(2).code(284, 0, 1, 257, 2, 280, 2).one(0).one(0).one(0).one(1)
                .raw("0 11 10").readBy(x);
        Check.same("a copy of two is one copy", "0 0 0 0 4 1 1 ", Say.hadOf(x));
    }

    /** What images of transforms had is not counted. */
    private static void ofItsImageAlone() {
        LosslessPixels x = new LosslessPixels();
        Say say = Say.picture(8, 1).transform(0).cache(3).code(288, 0, 1, 256, 2, 280, 2)
                .one(0).one(0).one(0).one(1).raw("0 10");
        say.transform(3).number(1, 4).cache(1).code(282, 0, 1, 280, 1).one(0).one(0).one(0).one(0)
                .raw("0 1");
        say.noMoreTransforms().plainImage(0).readBy(x);
        Check.same("those of transforms are not counted", "1 0 0 1 0 0 0 ", Say.hadOf(x));
        x.size(8, 8);
        x.write(false, false, 2, 0);
        // Its modes are four of a kind: a copy of 3, that is not counted.
        Check.same("nor are they when written", "1 0 0 0 0 1 0 ", Say.hadOf(x));
    }

    private static void ofWriting() {
        LosslessPixels x = new LosslessPixels();
        x.write(true, true, 0, 3);
        Check.same("what was asked for, changing anything or not", "1 0 1 1 8 0 1 ", Say.hadOf(x));
        x.size(4, 2);
        x.write(false, true, -1, 1);
        Check.same("a pixel 0 by the cache, then a copy", "0 0 1 0 2 1 1 ", Say.hadOf(x));
        x.write(false, true, -1, 0);
        Check.same("without a cache", "0 0 1 0 0 1 0 ", Say.hadOf(x));
        x.size(3, 1);
        x.write(false, false, -1, 4);
        Check.same("three pixels 0 by the cache", "0 0 0 0 16 0 3 ", Say.hadOf(x));
        x.write(true, false, -1, 0);
        Check.same("a palette", "0 0 0 1 0 0 0 ", Say.hadOf(x));
    }

    private static void latestThatWasDone() {
        LosslessPixels x = new LosslessPixels();
        x.write(true, false, 5, 2);
        Check.same("a write", "1 0 0 1 4 0 1 ", Say.hadOf(x));
        Check.bad("a write that is not done", () -> x.write(false, true, 99, 0));
        Check.same("the write before", "1 0 0 1 4 0 1 ", Say.hadOf(x));
        said(6).plainImage(0).readBy(x);
        Check.same("a read", "0 1 1 0 0 0 0 ", Say.hadOf(x));
        x.write(false, false, -1, 0);
        Check.same("a write, of a copy of 3", "0 0 0 0 0 1 0 ", Say.hadOf(x));
        said(6).plainImage(0).readBy(x);
        Say bad = said(1).cache(4).code(296, 0, 1, 256, 2, 280, 2).one(0).one(0).one(0).one(39);
        Check.bad("a read that is not done", () -> bad.raw("0 11 10").number(0, 18).readBy(x));
        Check.same("the read before", "0 1 1 0 0 0 0 ", Say.hadOf(x));
        x.wipe();
        Check.bad("a read of nothing", x::read);
        Check.same("the read before, still", "0 1 1 0 0 0 0 ", Say.hadOf(x));
    }
}
