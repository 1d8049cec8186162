import java.util.Arrays;
import java.util.function.Consumer;

/** A state to start from, and what the document reckons in it. */
final class State {
    static final int FIRST_BEST = 65535;

    final String name;
    final int[] cur;
    final int[] ref;
    final int best;

    /** The best is 65535, or 0..4080: no call can bring another one about. */
    State(String name, int[] cur, int[] ref, int best) {
        this.name = name + ", best " + best;
        this.cur = cur;
        this.ref = ref;
        this.best = best;
    }

    static State mixed(int best) {
        return new State("mixed pixels", Check.someCur(), Check.someRef(), best);
    }

    static State flat(int curPixel, int refPixel, int best) {
        int[] cur = new int[16];
        int[] ref = new int[64];
        Arrays.fill(cur, curPixel);
        Arrays.fill(ref, refPixel);
        return new State("all " + curPixel + " against all " + refPixel, cur, ref, best);
    }

    /** A block that costs the total against zeros, and whose row ends come as early as can be. */
    static State costing(int total, int best) {
        return new State("costing " + total, spread(total), new int[64], best);
    }

    /** Four rows with the given costs against zeros, each cost in two pixels of the row. */
    static State rows(int best, int... costs) {
        int[] cur = new int[16];
        for (int r = 0; r < 4; r++) {
            cur[r * 4] = costs[r] / 2;
            cur[r * 4 + 3] = costs[r] - costs[r] / 2;
        }
        String name = "rows " + Arrays.toString(costs);
        return new State(name, cur, new int[64], best);
    }

    static State[] some() {
        return new State[] {
            flat(0, 0, FIRST_BEST), flat(0, 0, 0), flat(128, 128, 1),
            mixed(FIRST_BEST), mixed(4080), mixed(1300), mixed(250), mixed(1), mixed(0),
            flat(255, 0, FIRST_BEST), flat(255, 0, 4080), flat(255, 0, 4079), flat(255, 0, 0),
            flat(0, 255, FIRST_BEST), flat(0, 255, 4080), flat(0, 255, 3060), flat(0, 255, 0)
        };
    }

    static int[] spread(int total) {
        int[] cur = new int[16];
        int left = total;
        for (int i = 0; i < 16; i++) {
            cur[i] = Math.min(left, 255);
            left -= cur[i];
        }
        return cur;
    }

    SadBlock made() {
        SadBlock x = new SadBlock();
        make(x);
        return x;
    }

    /** The object must be new: then the best is brought about by one take against zeros. */
    void make(SadBlock x) {
        if (best != FIRST_BEST) {
            Check.fill(x, spread(best), new int[64]);
            Check.holds(name + ": set-up, take", x.take(0, 0));
        }
        Check.fill(x, cur, ref);
        Check.same(name + ": set-up, best()", x.best(), best);
    }

    /** The state is the same after the calls: every pixel of both arrays, and the best. */
    void staysAfter(String what, Consumer<SadBlock> calls) {
        becomes(what, calls, cur, ref, best);
    }

    void becomes(String what, Consumer<SadBlock> calls, int[] curDue, int[] refDue, int bestDue) {
        Check.state(name + ": after " + what, x -> {
            make(x);
            calls.accept(x);
        }, curDue, refDue, bestDue);
    }

    int endOfRow(int row, int dx, int dy) {
        int sum = 0;
        for (int r = 0; r <= row; r++) {
            for (int c = 0; c < 4; c++) {
                sum += Math.abs(cur[r * 4 + c] - ref[(dy + r) * 8 + dx + c]);
            }
        }
        return sum;
    }

    int full(int dx, int dy) {
        return endOfRow(3, dx, dy);
    }

    /** What sadAt owes for an accepted offset. */
    int due(int dx, int dy) {
        for (int row = 0; row < 3; row++) {
            if (endOfRow(row, dx, dy) > best) {
                return endOfRow(row, dx, dy);
            }
        }
        return full(dx, dy);
    }
}
