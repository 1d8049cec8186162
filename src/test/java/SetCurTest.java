/** Promise 2. */
public final class SetCurTest {
    private static final int[] CUR = Check.someCur();
    private static final int[] REF = Check.someRef();

    public static void main(String[] args) {
        answersTheLowEightBits();
        readsEveryValueUnsigned();
        replacesOnePixelOnly();
        refusesOtherIndexes();
        leavesALowBestAlone();
        Check.end();
    }

    private static void answersTheLowEightBits() {
        int[][] pairs = {
            {0, 0}, {1, 1}, {127, 127}, {128, 128}, {255, 255}, {256, 0}, {257, 1}, {300, 44},
            {65535, 255}, {65536, 0}, {-1, 255}, {-128, 128}, {-129, 127}, {-255, 1}, {-256, 0},
            {Check.MIN, 0}, {Check.MIN + 1, 1}, {Check.MAX, 255}, {Check.MAX - 1, 254}
        };
        for (int i = 0; i < 16; i++) {
            SadBlock x = new SadBlock();
            for (int[] pair : pairs) {
                String call = "setCur(" + i + ", " + pair[0] + ")";
                Check.same(call, x.setCur(i, pair[0]), pair[1]);
                Check.same(call + ", then the cost against zeros", x.sadAt(2, 3), pair[1]);
            }
        }
    }

    private static void readsEveryValueUnsigned() {
        SadBlock x = new SadBlock();
        for (int v = -300; v <= 600; v++) {
            Check.same("setCur(7, " + v + ")", x.setCur(7, v), Math.floorMod(v, 256));
            Check.same("pixel 7 after " + v, x.sadAt(0, 0), Math.floorMod(v, 256));
        }
    }

    private static void replacesOnePixelOnly() {
        for (int i = 0; i < 16; i++) {
            int at = i;
            int[] due = CUR.clone();
            due[i] = 254;
            Check.state("setCur(" + i + ", 1022)", x -> {
                Check.fill(x, CUR, REF);
                x.setCur(at, 1022);
            }, due, REF, 65535);
            Check.state("setCur(" + i + ", ..) with the same value", x -> {
                Check.fill(x, CUR, REF);
                Check.same("same value again", x.setCur(at, CUR[at]), CUR[at]);
            }, CUR, REF, 65535);
        }
    }

    private static void refusesOtherIndexes() {
        int[] near = {16, 17, 31, 32, 63};
        for (int i : near) {
            refuses(i);
        }
        for (int i : Check.FAR) {
            refuses(i);
        }
    }

    private static void refuses(int i) {
        int[] values = {0, 1, 255, 300, -1, Check.MIN, Check.MAX};
        for (int v : values) {
            String call = "setCur(" + i + ", " + v + ")";
            Check.state(call, x -> {
                Check.fill(x, CUR, REF);
                Check.same(call, x.setCur(i, v), -1);
            }, CUR, REF, 65535);
        }
    }

    private static void leavesALowBestAlone() {
        int[] due = new int[16];
        due[5] = 9;
        Check.state("setCur after a take", x -> {
            x.setCur(0, 77);
            x.take(0, 0);
            x.setCur(0, 0);
            x.setCur(5, 9);
            x.setCur(16, 3);
        }, due, new int[64], 77);
    }
}
