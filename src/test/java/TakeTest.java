/** Promise 5. */
public final class TakeTest {
    private static final int[] CUR = Check.someCur();
    private static final int[] REF = Check.someRef();

    public static void main(String[] args) {
        keepsOnlyAStrictlyLowerCost();
        goesDownToZeroAndStays();
        keepsTheHighestSum();
        refusesOtherOffsets();
        leavesPixelsAlone();
        findsTheBlockInTheWindow();
        neverKeepsAPartialSum();
        Check.end();
    }

    private static void takes(SadBlock x, int dx, int dy, boolean due, int bestAfter) {
        String call = "take(" + dx + ", " + dy + ")";
        Check.same(call, x.take(dx, dy), due);
        Check.same("best() after " + call, x.best(), bestAfter);
    }

    private static void keepsOnlyAStrictlyLowerCost() {
        SadBlock x = new SadBlock();
        x.setCur(0, 100);
        takes(x, 0, 0, true, 100);
        takes(x, 0, 0, false, 100);
        takes(x, 4, 4, false, 100);
        x.setCur(0, 101);
        takes(x, 0, 0, false, 100);
        x.setCur(0, 99);
        takes(x, 0, 0, true, 99);
        x.setCur(15, 1);
        takes(x, 0, 0, false, 99);
        x.setRef(63, 2);
        takes(x, 4, 4, false, 99);
        x.setRef(36, 1);
        takes(x, 4, 4, false, 99);
        x.setRef(63, 1);
        takes(x, 4, 4, true, 98);
    }

    private static void goesDownToZeroAndStays() {
        SadBlock x = new SadBlock();
        takes(x, 2, 2, true, 0);
        takes(x, 2, 2, false, 0);
        takes(x, -1, 2, false, 0);
        x.setCur(3, 1);
        takes(x, 2, 2, false, 0);
        x.setCur(3, 0);
        takes(x, 1, 3, false, 0);
    }

    private static void keepsTheHighestSum() {
        SadBlock x = new SadBlock();
        for (int i = 0; i < 16; i++) {
            x.setCur(i, -1);
        }
        takes(x, 4, 4, true, 4080);
        takes(x, 0, 0, false, 4080);
        x.setRef(0, 1);
        takes(x, 0, 0, true, 4079);
    }

    private static void refusesOtherOffsets() {
        int[] near = {-2, -1, 5, 6, 7, 8};
        int[] ok = {0, 1, 2, 3, 4};
        for (int[] wrong : new int[][] {near, Check.FAR}) {
            for (int w : wrong) {
                for (int other : ok) {
                    refuses(w, other);
                    refuses(other, w);
                }
                refuses(w, w);
                refuses(w, Check.MIN);
                refuses(Check.MAX, w);
            }
        }
    }

    private static void refuses(int dx, int dy) {
        String call = "take(" + dx + ", " + dy + ")";
        Check.state(call, x -> {
            Check.fill(x, CUR, REF);
            Check.same(call, x.take(dx, dy), false);
        }, CUR, REF, 65535);
    }

    private static void leavesPixelsAlone() {
        for (int i = 0; i < 25; i++) {
            int dx = i % 5;
            int dy = i / 5;
            int cost = fullCost(dx, dy);
            Check.state("take(" + dx + ", " + dy + ") kept, then not", x -> {
                Check.fill(x, CUR, REF);
                Check.same("first take", x.take(dx, dy), true);
                Check.same("second take", x.take(dx, dy), false);
            }, CUR, REF, cost);
            Check.state("take(" + dx + ", " + dy + ") ended early", x -> {
                x.take(0, 0);
                Check.fill(x, CUR, REF);
                Check.same("take above best", x.take(dx, dy), false);
            }, CUR, REF, 0);
        }
    }

    private static int fullCost(int dx, int dy) {
        int sum = 0;
        for (int i = 0; i < 16; i++) {
            sum += Math.abs(CUR[i] - REF[(dy + i / 4) * 8 + dx + i % 4]);
        }
        return sum;
    }

    private static void findsTheBlockInTheWindow() {
        for (int at = 0; at < 25; at++) {
            SadBlock x = new SadBlock();
            Check.fill(x, CUR, REF);
            for (int i = 0; i < 16; i++) {
                x.setCur(i, REF[(at / 5 + i / 4) * 8 + at % 5 + i % 4]);
            }
            int last = -1;
            for (int i = 0; i < 25; i++) {
                if (x.take(i % 5, i / 5)) {
                    last = i;
                }
            }
            Check.same("place of the block, hidden at " + at, last, at);
            Check.same("best() at the place " + at, x.best(), 0);
        }
    }

    private static void neverKeepsAPartialSum() {
        SadBlock x = new SadBlock();
        x.setCur(0, 60);
        takes(x, 0, 0, true, 60);
        x.setCur(0, 50);
        x.setCur(4, 11);
        x.setCur(12, 200);
        takes(x, 0, 0, false, 60);
        x.setCur(4, 10);
        takes(x, 0, 0, false, 60);
        x.setCur(12, 0);
        takes(x, 0, 0, false, 60);
        x.setCur(4, 9);
        takes(x, 0, 0, true, 59);
    }
}
