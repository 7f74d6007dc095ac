/** All that can be seen of an object, and calls that must leave it as it was. */
final class Whole {
    private Whole() {}

    static String of(LosslessPixels object) {
        return Say.pictureOf(object) + " had " + Say.hadOf(object) + "stream " + Say.bitsOf(object);
    }

    /** The call throws just this, and changes nothing. */
    static void refused(Class<?> due, String what, LosslessPixels object, Check.Call call) {
        String before = of(object);
        Check.throwsExactly(due, what, call);
        Check.same(what + ", refused: all stays as it was", before, of(object));
    }

    /** The call answers this, and changes nothing. */
    static void stays(String what, LosslessPixels object, int due, int answer, String before) {
        Check.same(what, due, answer);
        Check.same(what + ": all stays as it was", before, of(object));
    }

    /** An object that has a picture, a stream and something that was had, none of them plain. */
    static LosslessPixels used() {
        LosslessPixels object = new LosslessPixels();
        object.size(4, 3);
        for (int i = 0; i < 12; i++) {
            object.set(i % 4, i / 4, (i % 5) * 0x90401021);
        }
        object.write(true, true, 11, 2);
        object.feed(0xC35AL, 2);
        object.set(3, 2, 0x01020304);
        return object;
    }
}
