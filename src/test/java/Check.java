import java.util.TreeSet;
import java.util.function.Consumer;

/** What the tests share: counting wrong answers, and looking at a whole state through the face. */
final class Check {
    static final int MIN = Integer.MIN_VALUE;
    static final int MAX = Integer.MAX_VALUE;
    /** Values outside every index and offset range of the class, near and far. */
    static final int[] FAR = {
        MIN, MIN + 1, -65536, -256, -64, -16, -5, -1, 64, 65, 128, 255, 256, 65535, 65536,
        1 << 30, MAX - 1, MAX
    };

    /** A broken sweep would print hundreds of thousands of lines that say the same. */
    private static final int MOST_LINES = 20;

    private static int wrong = 0;
    private static int lines = 0;
    private static String about = "";

    private Check() {
    }

    /** The test of one sentence of the document: what is wrong in it is told under its words. */
    static void sentence(String words, Runnable test) {
        about = "[" + words + "] ";
        lines = 0;
        try {
            test.run();
        } catch (RuntimeException | StackOverflowError thrown) {
            tell("threw " + thrown);
        }
        about = "";
        lines = 0;
    }

    static void same(String what, long got, long want) {
        if (got != want) {
            tell(what + " answered " + got + ", due is " + want);
        }
    }

    private static void tell(String what) {
        wrong++;
        lines++;
        if (lines <= MOST_LINES) {
            System.out.println(about + what);
        } else if (lines == MOST_LINES + 1) {
            System.out.println(about + ".. and more");
        }
    }

    static void holds(String what, boolean got) {
        same(what, got, true);
    }

    /**
     * Ints from the whole range, in rising order and none twice: all of them around 0, those
     * around every power of two, and one in 65521 of the rest.
     */
    static int[] manyInts() {
        TreeSet<Integer> ints = new TreeSet<>();
        for (int near = -3; near <= 3; near++) {
            for (int bit = 0; bit < 32; bit++) {
                ints.add((1 << bit) + near);
                ints.add(-(1 << bit) + near);
            }
        }
        for (int i = -1100; i <= 1100; i++) {
            ints.add(i);
        }
        for (long i = MIN; i <= MAX; i += 65521) {
            ints.add((int) i);
        }
        return ints.stream().mapToInt(Integer::intValue).toArray();
    }

    static void same(String what, boolean got, boolean want) {
        same(what, got ? 1L : 0L, want ? 1L : 0L);
    }

    /**
     * Compares the state after the calls with the state that is due, pixel for pixel. A sum of 0
     * is answered only if all 16 pairs are equal, whatever the best is, so the one array is looked
     * at by writing what is due into the other. That spoils the other: each has its own object.
     */
    static void state(String what, Consumer<SadBlock> calls, int[] cur, int[] ref, int best) {
        SadBlock first = new SadBlock();
        calls.accept(first);
        same(what + ": best()", first.best(), best);
        for (int i = 0; i < 16; i++) {
            first.setRef(i / 4 * 8 + i % 4, cur[i]);
        }
        same(what + ": distance of cur from what is due", first.sadAt(0, 0), 0);

        SadBlock second = new SadBlock();
        calls.accept(second);
        for (int dy = 0; dy <= 4; dy += 4) {
            for (int dx = 0; dx <= 4; dx += 4) {
                for (int i = 0; i < 16; i++) {
                    second.setCur(i, ref[(dy + i / 4) * 8 + dx + i % 4]);
                }
                same(what + ": distance of ref from what is due, part at " + dx + ", " + dy,
                    second.sadAt(dx, dy), 0);
            }
        }
    }

    /** A block without two equal pixels, some of them above 127. */
    static int[] someCur() {
        int[] cur = new int[16];
        for (int i = 0; i < 16; i++) {
            cur[i] = (i * 37 + 11) & 255;
        }
        return cur;
    }

    /** A window without two equal pixels, some of them above 127. */
    static int[] someRef() {
        int[] ref = new int[64];
        for (int i = 0; i < 64; i++) {
            ref[i] = (i * 91 + 200) & 255;
        }
        return ref;
    }

    static void fill(SadBlock x, int[] cur, int[] ref) {
        for (int i = 0; i < 16; i++) {
            x.setCur(i, cur[i]);
        }
        for (int i = 0; i < 64; i++) {
            x.setRef(i, ref[i]);
        }
    }

    static void end() {
        System.out.println(wrong == 0 ? "all answers are as due" : wrong + " answers are not as due");
        if (wrong != 0) {
            System.exit(1);
        }
    }
}
