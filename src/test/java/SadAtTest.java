/** Promise 4. */
public final class SadAtTest {
    private static final int[] CUR = Check.someCur();
    private static final int[] REF = Check.someRef();
    private static final int[] OFFSETS = {0, 1, 2, 3, 4};
    private static final int[] NEAR = {-2, -1, 5, 6, 7, 8, 16};

    public static void main(String[] args) {
        pairsEachPixelWithItsOwn();
        addsAbsoluteUnsignedDifferences();
        knownSumsByHand();
        refusesOtherOffsets();
        endsAfterTheFirstRowAboveBest();
        goesOnWhenEqualToBest();
        looksAtBestOnlyAtRowEnds();
        endsAtTheFirstDifferenceWhenBestIsZero();
        reachesTheHighestSum();
        changesNothing();
        Check.end();
    }

    /** One pixel of each array stands out, so the sum tells whether the two met. */
    private static void pairsEachPixelWithItsOwn() {
        for (int i = 0; i < 16; i++) {
            for (int j = 0; j < 64; j++) {
                SadBlock x = new SadBlock();
                x.setCur(i, 200);
                x.setRef(j, 150);
                for (int dy : OFFSETS) {
                    for (int dx : OFFSETS) {
                        String call = "cur " + i + ", ref " + j + ": sadAt(" + dx + ", " + dy + ")";
                        Check.same(call, x.sadAt(dx, dy), oneAgainstOne(i, j, dx, dy));
                    }
                }
            }
        }
    }

    private static int oneAgainstOne(int i, int j, int dx, int dy) {
        int r = j / 8 - dy;
        int c = j % 8 - dx;
        if (r < 0 || r > 3 || c < 0 || c > 3) {
            return 200;
        }
        return r * 4 + c == i ? 50 : 350;
    }

    private static void addsAbsoluteUnsignedDifferences() {
        SadBlock x = new SadBlock();
        for (int a = 0; a < 256; a++) {
            x.setCur(15, a);
            for (int b = 0; b < 256; b++) {
                x.setRef(63, b);
                Check.same("pixels " + a + " and " + b, x.sadAt(4, 4), Math.abs(a - b));
            }
        }
    }

    private static void knownSumsByHand() {
        SadBlock x = new SadBlock();
        for (int i = 0; i < 16; i++) {
            x.setCur(i, 100);
        }
        for (int i = 0; i < 64; i++) {
            x.setRef(i, i);
        }
        // 16 * 100 less the sum of the part: its mean is its top-left pixel + 13.5.
        Check.same("slope: sadAt(0, 0)", x.sadAt(0, 0), 1384);
        Check.same("slope: sadAt(4, 0)", x.sadAt(4, 0), 1320);
        Check.same("slope: sadAt(0, 4)", x.sadAt(0, 4), 872);
        Check.same("slope: sadAt(4, 4)", x.sadAt(4, 4), 808);
        Check.same("slope: sadAt(1, 3)", x.sadAt(1, 3), 984);
        Check.same("slope: sadAt(3, 1)", x.sadAt(3, 1), 1208);
    }

    private static void refusesOtherOffsets() {
        SadBlock fresh = new SadBlock();
        SadBlock low = new SadBlock();
        low.take(0, 0);
        Check.fill(low, CUR, REF);
        for (SadBlock x : new SadBlock[] {fresh, low}) {
            for (int[] wrong : new int[][] {NEAR, Check.FAR}) {
                for (int w : wrong) {
                    for (int ok : OFFSETS) {
                        refuses(x, w, ok);
                        refuses(x, ok, w);
                    }
                    for (int other : NEAR) {
                        refuses(x, w, other);
                        refuses(x, other, w);
                    }
                    for (int other : Check.FAR) {
                        refuses(x, w, other);
                        refuses(x, other, w);
                    }
                }
            }
        }
    }

    private static void refuses(SadBlock x, int dx, int dy) {
        Check.same("sadAt(" + dx + ", " + dy + ")", x.sadAt(dx, dy), -1);
    }

    /** The part at 4, 4 costs just the best; the block stands against zeros at 0, 0. */
    private static SadBlock withBest(int best) {
        SadBlock x = new SadBlock();
        int left = best;
        for (int i = 0; i < 16; i++) {
            int v = Math.min(left, 255);
            x.setCur(i, v);
            left -= v;
        }
        Check.same("set-up: take for best " + best, x.take(4, 4), true);
        Check.same("set-up: best " + best, x.best(), best);
        return x;
    }

    private static void setRows(SadBlock x, int[] rows) {
        for (int i = 0; i < 16; i++) {
            x.setCur(i, i % 4 == 3 ? rows[i / 4] : 0);
        }
    }

    private static void endsAfterTheFirstRowAboveBest() {
        int[] rows = {10, 20, 40, 80};
        int[] ends = {10, 30, 70, 150};
        for (int best = 0; best <= 200; best++) {
            SadBlock x = withBest(best);
            setRows(x, rows);
            int due = 150;
            for (int r = 3; r >= 0; r--) {
                if (ends[r] > best) {
                    due = ends[r];
                }
            }
            Check.same("rows 10, 20, 40, 80 with best " + best, x.sadAt(2, 1), due);
        }
    }

    private static void goesOnWhenEqualToBest() {
        SadBlock x = withBest(100);
        setRows(x, new int[] {100, 0, 0, 0});
        Check.same("100 in row 0, best 100", x.sadAt(0, 0), 100);
        setRows(x, new int[] {100, 0, 7, 9});
        Check.same("100, 0, 7, 9, best 100", x.sadAt(0, 0), 107);
        setRows(x, new int[] {99, 1, 1, 200});
        Check.same("99, 1, 1, 200, best 100", x.sadAt(0, 0), 101);
        setRows(x, new int[] {50, 25, 25, 200});
        Check.same("50, 25, 25, 200, best 100", x.sadAt(0, 0), 300);
        setRows(x, new int[] {101, 1, 1, 1});
        Check.same("101, 1, 1, 1, best 100", x.sadAt(0, 0), 101);
    }

    private static void looksAtBestOnlyAtRowEnds() {
        SadBlock x = withBest(10);
        for (int i = 0; i < 16; i++) {
            x.setCur(i, 50);
        }
        Check.same("all 50, best 10", x.sadAt(0, 0), 200);
        for (int i = 0; i < 4; i++) {
            x.setCur(i, i == 0 ? 10 : 0);
        }
        Check.same("10 then rows of 200, best 10", x.sadAt(0, 0), 210);
    }

    private static void endsAtTheFirstDifferenceWhenBestIsZero() {
        SadBlock x = new SadBlock();
        Check.same("set-up: take at 0", x.take(0, 0), true);
        Check.same("equal pixels, best 0", x.sadAt(3, 3), 0);
        for (int r = 3; r >= 0; r--) {
            x.setCur(r * 4, 3);
            x.setCur(r * 4 + 3, 2 + r);
            Check.same("first difference in row " + r + ", best 0", x.sadAt(3, 3), 5 + r);
        }
    }

    private static void reachesTheHighestSum() {
        SadBlock x = new SadBlock();
        for (int i = 0; i < 16; i++) {
            x.setCur(i, 255);
        }
        Check.same("255 against 0", x.sadAt(4, 0), 4080);
        Check.same("take of 4080", x.take(4, 0), true);
        Check.same("255 against 0, best 4080", x.sadAt(0, 4), 4080);
        for (int i = 0; i < 16; i++) {
            x.setCur(i, 0);
        }
        for (int i = 0; i < 64; i++) {
            x.setRef(i, 255);
        }
        Check.same("0 against 255, best 4080", x.sadAt(2, 2), 4080);
    }

    private static void changesNothing() {
        int[] args = {Check.MIN, -1, 0, 1, 2, 3, 4, 5, Check.MAX};
        Check.state("sadAt everywhere", x -> {
            Check.fill(x, CUR, REF);
            twiceTheSame(x, args);
        }, CUR, REF, 65535);
        Check.state("sadAt everywhere with best 0", x -> {
            x.take(0, 0);
            Check.fill(x, CUR, REF);
            twiceTheSame(x, args);
        }, CUR, REF, 0);
    }

    private static void twiceTheSame(SadBlock x, int[] args) {
        for (int dy : args) {
            for (int dx : args) {
                int once = x.sadAt(dx, dy);
                Check.same("sadAt(" + dx + ", " + dy + ") again", x.sadAt(dx, dy), once);
            }
        }
    }
}
