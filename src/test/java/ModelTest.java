/**
 * Long runs of calls against a second reading of the document. The arguments come from a fixed
 * rule, so that every run of the test makes the same calls.
 */
public final class ModelTest {
    private static final int OBJECTS = 4000;
    private static final int CALLS = 150;
    private static final int[] EDGES = {
        Check.MIN, Check.MIN + 1, -256, -1, 0, 3, 4, 5, 7, 8, 15, 16, 63, 64, 127, 128, 255, 256,
        300, 65535, 65536, Check.MAX - 1, Check.MAX
    };

    private static long seed = 20261115L;
    private static int[] cur;
    private static int[] ref;
    private static int best;

    private static int early = 0;
    private static int kept = 0;

    public static void main(String[] args) {
        for (int n = 0; n < OBJECTS; n++) {
            SadBlock x = new SadBlock();
            cur = new int[16];
            ref = new int[64];
            best = 65535;
            // Small pixels bring many equal sums, great ones bring many early ends.
            int spread = new int[] {2, 8, 64, 256}[n % 4];
            fill(x, spread);
            for (int k = 0; k < CALLS; k++) {
                oneCall(x, spread, "object " + n + ", call " + k + ": ");
            }
        }
        Check.same("the runs ended early often enough", early > 10000, true);
        Check.same("the runs kept costs often enough", kept > 5000, true);
        Check.end();
    }

    private static int below(int bound) {
        seed = seed * 6364136223846793005L + 1442695040888963407L;
        return (int) ((seed >>> 33) % bound);
    }

    private static int edgeOr(int value) {
        return below(16) == 0 ? EDGES[below(EDGES.length)] : value;
    }

    private static void fill(SadBlock x, int spread) {
        for (int i = 0; i < 16; i++) {
            cur[i] = below(spread);
            x.setCur(i, cur[i]);
        }
        for (int i = 0; i < 64; i++) {
            ref[i] = below(spread);
            x.setRef(i, ref[i]);
        }
    }

    private static void oneCall(SadBlock x, int spread, String where) {
        int kind = below(8);
        if (kind < 2) {
            int i = edgeOr(below(16));
            int v = edgeOr(below(spread));
            Check.same(where + "setCur(" + i + ", " + v + ")", x.setCur(i, v), store(cur, i, v));
        } else if (kind < 4) {
            int i = edgeOr(below(64));
            int v = edgeOr(below(spread));
            Check.same(where + "setRef(" + i + ", " + v + ")", x.setRef(i, v), store(ref, i, v));
        } else if (kind < 6) {
            int dx = edgeOr(below(5));
            int dy = edgeOr(below(5));
            Check.same(where + "sadAt(" + dx + ", " + dy + ")", x.sadAt(dx, dy), cost(dx, dy));
        } else if (kind < 7) {
            int dx = edgeOr(below(5));
            int dy = edgeOr(below(5));
            Check.same(where + "take(" + dx + ", " + dy + ")", x.take(dx, dy), keep(dx, dy));
        }
        Check.same(where + "best()", x.best(), best);
    }

    private static int store(int[] pixels, int i, int v) {
        if (i < 0 || i >= pixels.length) {
            return -1;
        }
        pixels[i] = Math.floorMod(v, 256);
        return pixels[i];
    }

    /** Adds all rows first and picks the row end afterwards, unlike the class. */
    private static int cost(int dx, int dy) {
        if (Math.min(dx, dy) < 0 || Math.max(dx, dy) > 4) {
            return -1;
        }
        int[] ends = new int[4];
        for (int i = 0; i < 16; i++) {
            int difference = Math.abs(cur[i] - ref[(dy + i / 4) * 8 + dx + i % 4]);
            for (int r = i / 4; r < 4; r++) {
                ends[r] += difference;
            }
        }
        for (int r = 0; r < 3; r++) {
            if (ends[r] > best) {
                early++;
                return ends[r];
            }
        }
        return ends[3];
    }

    private static boolean keep(int dx, int dy) {
        int sum = cost(dx, dy);
        if (sum == -1 || sum >= best) {
            return false;
        }
        kept++;
        best = sum;
        return true;
    }
}
