/** Promise 3. */
public final class SetRefTest {
    private static final int[] CUR = Check.someCur();
    private static final int[] REF = Check.someRef();

    public static void main(String[] args) {
        answersTheLowEightBits();
        readsEveryValueUnsigned();
        replacesOnePixelOnly();
        refusesOtherIndexes();
        leavesALowBestAlone();
        Check.end();
    }

    private static void answersTheLowEightBits() {
        int[][] pairs = {
            {0, 0}, {1, 1}, {127, 127}, {128, 128}, {255, 255}, {256, 0}, {257, 1}, {300, 44},
            {65535, 255}, {65536, 0}, {-1, 255}, {-128, 128}, {-129, 127}, {-255, 1}, {-256, 0},
            {Check.MIN, 0}, {Check.MIN + 1, 1}, {Check.MAX, 255}, {Check.MAX - 1, 254}
        };
        for (int i = 0; i < 64; i++) {
            SadBlock x = new SadBlock();
            int dx = Math.min(i % 8, 4);
            int dy = Math.min(i / 8, 4);
            for (int[] pair : pairs) {
                String call = "setRef(" + i + ", " + pair[0] + ")";
                Check.same(call, x.setRef(i, pair[0]), pair[1]);
                Check.same(call + ", then the cost against zeros", x.sadAt(dx, dy), pair[1]);
            }
        }
    }

    private static void readsEveryValueUnsigned() {
        SadBlock x = new SadBlock();
        for (int v = -300; v <= 600; v++) {
            Check.same("setRef(63, " + v + ")", x.setRef(63, v), Math.floorMod(v, 256));
            Check.same("pixel 63 after " + v, x.sadAt(4, 4), Math.floorMod(v, 256));
        }
    }

    private static void replacesOnePixelOnly() {
        for (int i = 0; i < 64; i++) {
            int at = i;
            int[] due = REF.clone();
            due[i] ^= 129;
            Check.state("setRef(" + i + ", ..)", x -> {
                Check.fill(x, CUR, REF);
                x.setRef(at, due[at] - 512);
            }, CUR, due, 65535);
            Check.state("setRef(" + i + ", ..) with the same value", x -> {
                Check.fill(x, CUR, REF);
                Check.same("same value again", x.setRef(at, REF[at]), REF[at]);
            }, CUR, REF, 65535);
        }
    }

    private static void refusesOtherIndexes() {
        int[] values = {0, 1, 255, 300, -1, Check.MIN, Check.MAX};
        for (int i : Check.FAR) {
            for (int v : values) {
                String call = "setRef(" + i + ", " + v + ")";
                Check.state(call, x -> {
                    Check.fill(x, CUR, REF);
                    Check.same(call, x.setRef(i, v), -1);
                }, CUR, REF, 65535);
            }
        }
    }

    private static void leavesALowBestAlone() {
        int[] due = new int[64];
        due[63] = 9;
        Check.state("setRef after a take", x -> {
            x.setRef(0, 77);
            x.take(0, 0);
            x.setRef(0, 0);
            x.setRef(63, 9);
            x.setRef(64, 3);
        }, new int[16], due, 77);
    }
}
