/**
 * Block matching cost: the sum of absolute differences between a 4x4 block and a 4x4 part of an
 * 8x8 window, given up at the end of a row once it is above the best cost so far.
 */
public final class SadBlock {
    private static final int REFUSED = -1;
    private static final int BLOCK_SIDE = 4;
    private static final int BLOCK_PIXELS = 16;
    private static final int WINDOW_SIDE = 8;
    private static final int WINDOW_PIXELS = 64;
    private static final int LAST_OFFSET = 4;
    private static final int PIXEL_MASK = 255;
    private static final int FIRST_BEST = 65535;

    private final byte[] cur = new byte[BLOCK_PIXELS];
    private final byte[] ref = new byte[WINDOW_PIXELS];
    private int bestCost;

    public SadBlock() {
        bestCost = FIRST_BEST;
    }

    public int setCur(int i, int v) {
        if (i < 0 || i >= BLOCK_PIXELS) {
            return REFUSED;
        }
        cur[i] = (byte) v;
        return v & PIXEL_MASK;
    }

    public int setRef(int i, int v) {
        if (i < 0 || i >= WINDOW_PIXELS) {
            return REFUSED;
        }
        ref[i] = (byte) v;
        return v & PIXEL_MASK;
    }

    public int sadAt(int dx, int dy) {
        if (!isOffset(dx) || !isOffset(dy)) {
            return REFUSED;
        }
        int sum = 0;
        for (int r = 0; r < BLOCK_SIDE; r++) {
            sum += rowCost(r, dx, dy);
            // Strictly above: a sum that only equals the best must still be told in full.
            if (sum > bestCost) {
                return sum;
            }
        }
        return sum;
    }

    public boolean take(int dx, int dy) {
        int cost = sadAt(dx, dy);
        // A sum that ended early is above the best, so only a full sum is ever kept.
        if (cost < 0 || cost >= bestCost) {
            return false;
        }
        bestCost = cost;
        return true;
    }

    public int best() {
        return bestCost;
    }

    private static boolean isOffset(int d) {
        return d >= 0 && d <= LAST_OFFSET;
    }

    /** Needs r in 0..3 and accepted offsets: then every index lies inside its array. */
    private int rowCost(int r, int dx, int dy) {
        int curStart = r * BLOCK_SIDE;
        int refStart = (dy + r) * WINDOW_SIDE + dx;
        int sum = 0;
        for (int c = 0; c < BLOCK_SIDE; c++) {
            sum += pixelCost(cur[curStart + c], ref[refStart + c]);
        }
        return sum;
    }

    /** Bytes are signed in Java and pixels are not, hence the masks. */
    private static int pixelCost(byte a, byte b) {
        int difference = (a & PIXEL_MASK) - (b & PIXEL_MASK);
        return difference < 0 ? -difference : difference;
    }
}
