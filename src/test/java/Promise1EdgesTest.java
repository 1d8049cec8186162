/** Promise 1, sentence by sentence. */
public final class Promise1EdgesTest {
    public static void main(String[] args) {
        Check.sentence("all 16 pixels of cur are 0", Promise1EdgesTest::curIsZero);
        Check.sentence("all 64 pixels of ref are 0", Promise1EdgesTest::refIsZero);
        Check.sentence("best is 65535", Promise1EdgesTest::bestIsTheFirstOne);
        Check.sentence("right after construction, best() answers 65535, and sadAt(dx, dy) answers 0"
            + " for every accepted offset", Promise1EdgesTest::firstAnswers);
        Check.sentence("The constructor never throws", Promise1EdgesTest::manyObjects);
        Check.end();
    }

    /** The window is written first, so that the answer tells of cur alone. */
    private static void curIsZero() {
        for (int pixel : new int[] {0, 1, 128, 255}) {
            for (int at = 0; at < 16; at++) {
                SadBlock x = new SadBlock();
                for (int i = 0; i < 64; i++) {
                    x.setRef(i, 0);
                }
                x.setRef(at / 4 * 8 + at % 4, pixel);
                Check.same("window 0 but " + pixel + " against " + at, x.sadAt(0, 0), pixel);
            }
        }
    }

    /** The block is written first, so that the answer tells of ref alone. */
    private static void refIsZero() {
        for (int pixel : new int[] {0, 1, 128, 255}) {
            for (int dy = 0; dy <= 4; dy++) {
                for (int dx = 0; dx <= 4; dx++) {
                    SadBlock x = new SadBlock();
                    for (int i = 0; i < 16; i++) {
                        x.setCur(i, pixel);
                    }
                    String call = "block of " + pixel + ": sadAt(" + dx + ", " + dy + ")";
                    Check.same(call, x.sadAt(dx, dy), 16 * pixel);
                }
            }
        }
    }

    private static void bestIsTheFirstOne() {
        Check.same("best()", new SadBlock().best(), 65535);
        // The highest cost there is must still be below the first best.
        SadBlock x = new SadBlock();
        for (int i = 0; i < 16; i++) {
            x.setCur(i, 255);
        }
        Check.same("best() with pixels set", x.best(), 65535);
        Check.holds("take of 4080 by a new object", x.take(0, 0));
    }

    private static void firstAnswers() {
        SadBlock x = new SadBlock();
        Check.same("best() first", x.best(), 65535);
        for (int dy = 0; dy <= 4; dy++) {
            for (int dx = 0; dx <= 4; dx++) {
                Check.same("sadAt(" + dx + ", " + dy + ") first", new SadBlock().sadAt(dx, dy), 0);
                Check.same("sadAt(" + dx + ", " + dy + ") among others", x.sadAt(dx, dy), 0);
            }
        }
        Check.same("best() after all offsets", x.best(), 65535);
    }

    private static void manyObjects() {
        SadBlock[] all = new SadBlock[10000];
        for (int n = 0; n < all.length; n++) {
            all[n] = new SadBlock();
            all[n].setCur(n % 16, n);
            all[n].setRef(n % 64, n);
            all[n].take(0, 0);
        }
        Check.same("best() of one more object", new SadBlock().best(), 65535);
        Check.same("sadAt(0, 0) of one more object", new SadBlock().sadAt(0, 0), 0);
    }
}
