import java.util.function.Consumer;

/**
 * The sentences of promises 2 and 3: each side says how its pixels are set, how many there are, and
 * where one is seen. Two of them (dropped bits, the same value again) are told by promise 2 alone,
 * but follow from the others for promise 3 too.
 */
abstract class PixelEdges {
    private static final int[] INTS = Check.manyInts();
    /** Values with nothing, something and everything in the low 8 bits and above them. */
    private static final int[] VALUES = {
        0, 1, 127, 128, 255, 256, 300, -1, -256, Check.MIN, Check.MIN + 1, Check.MAX - 1, Check.MAX
    };

    private final String call;
    private final int count;

    PixelEdges(String call, int count) {
        this.call = call;
        this.count = count;
    }

    abstract int set(SadBlock x, int i, int v);

    /** The pixels of this side in the state. */
    abstract int[] pixels(State start);

    /** The state's due after the calls, where this side has other pixels than at the start. */
    abstract void becomes(State start, String what, Consumer<SadBlock> calls,
        int[] due);

    /** The cost against zeros of a part that has pixel i in it; the object has no other pixel. */
    abstract int seen(SadBlock x, int i);

    final void run() {
        Check.sentence(call + " is defined for every int i and every int v", this::everyIntIsAnswered);
        Check.sentence("If i < 0: it answers -1", this::tooSmall);
        Check.sentence("If i >= " + count + ": it answers -1", this::tooLarge);
        Check.sentence("this includes Integer.MIN_VALUE and Integer.MAX_VALUE", this::leastAndGreatest);
        Check.sentence("answers -1 and changes nothing: no pixel of cur, no pixel of ref and not best",
            this::refusedChangesNothing);
        Check.sentence("Otherwise (i in 0.." + (count - 1) + "): the low 8 bits of v are stored as pixel i",
            this::lowBitsAreStored);
        Check.sentence("the answer is v & 255, a value in 0..255", this::answerIsTheLowBits);
        Check.sentence("exactly the unsigned value from now on read at pixel i",
            this::answerIsWhatIsRead);
        Check.sentence("v = 300 answers 44", () -> example(300, 44));
        Check.sentence("v = 256 answers 0", () -> example(256, 0));
        Check.sentence("v = -1 answers 255", () -> example(-1, 255));
        Check.sentence("v = Integer.MIN_VALUE answers 0", () -> example(Integer.MIN_VALUE, 0));
        Check.sentence("v = Integer.MAX_VALUE answers 255", () -> example(Integer.MAX_VALUE, 255));
        Check.sentence("Any bits above the low 8 are dropped without refusal", this::highBitsAreDropped);
        Check.sentence("An accepted call replaces whatever pixel i held before", this::replaces);
        Check.sentence("It changes nothing else: the other pixels of both arrays, and best",
            this::changesNothingElse);
        Check.sentence("Storing the same value again leaves the state the same", this::sameAgain);
        Check.sentence("the answer -1 occurs only for a refused index", this::minusOneOnlyIfRefused);
    }

    private boolean accepted(int i) {
        return i >= 0 && i < count;
    }

    private String told(int i, int v) {
        return call + "(" + i + ", " + v + ")";
    }

    private void answers(SadBlock x, int i, int v, int due) {
        int got = set(x, i, v);
        if (got != due) {
            Check.same(told(i, v), got, due);
        }
    }

    private void everyIntIsAnswered() {
        SadBlock x = new SadBlock();
        for (int i : INTS) {
            for (int v : VALUES) {
                answers(x, i, v, accepted(i) ? Math.floorMod(v, 256) : -1);
            }
        }
    }

    private void tooSmall() {
        SadBlock x = new SadBlock();
        for (int i : INTS) {
            for (int v : VALUES) {
                if (i < 0) {
                    answers(x, i, v, -1);
                }
            }
        }
        answers(x, -1, 7, -1);
        answers(x, 0, 7, 7);
    }

    private void tooLarge() {
        SadBlock x = new SadBlock();
        for (int i : INTS) {
            for (int v : VALUES) {
                if (i >= count) {
                    answers(x, i, v, -1);
                }
            }
        }
        answers(x, count, 7, -1);
        answers(x, count - 1, 7, 7);
    }

    private void leastAndGreatest() {
        for (State start : State.some()) {
            for (int v : VALUES) {
                start.staysAfter(told(Check.MIN, v), x -> answers(x, Check.MIN, v, -1));
                start.staysAfter(told(Check.MAX, v), x -> answers(x, Check.MAX, v, -1));
            }
        }
    }

    private void refusedChangesNothing() {
        int[] near = {-count - 1, -count, -count + 1, -2, -1, count, count + 1, 2 * count, 256, 65536};
        for (State start : State.some()) {
            for (int i : near) {
                for (int v : VALUES) {
                    start.staysAfter(told(i, v), x -> answers(x, i, v, -1));
                }
            }
            start.staysAfter("every refused index", this::setAllRefused);
        }
    }

    private void setAllRefused(SadBlock x) {
        for (int i : INTS) {
            if (!accepted(i)) {
                answers(x, i, 0, -1);
                answers(x, i, 85, -1);
            }
        }
    }

    private void lowBitsAreStored() {
        for (State start : State.some()) {
            for (int i : new int[] {0, 1, count / 2, count - 2, count - 1}) {
                for (int v : VALUES) {
                    int[] due = pixels(start).clone();
                    due[i] = Math.floorMod(v, 256);
                    becomes(start, told(i, v), x -> set(x, i, v), due);
                }
            }
        }
    }

    private void answerIsTheLowBits() {
        SadBlock x = new SadBlock();
        for (int i = 0; i < count; i++) {
            for (int v : INTS) {
                answers(x, i, v, Math.floorMod(v, 256));
            }
        }
    }

    private void answerIsWhatIsRead() {
        for (int i = 0; i < count; i++) {
            SadBlock x = new SadBlock();
            for (int v = -257; v <= 512; v++) {
                int answer = set(x, i, v);
                Check.same("the cost after " + told(i, v), seen(x, i), answer);
                set(x, -1, 3);
                set(x, count, 3);
                x.sadAt(2, 2);
                x.best();
                Check.same("the cost later, after " + told(i, v), seen(x, i), answer);
            }
        }
    }

    private void example(int v, int due) {
        for (int i = 0; i < count; i++) {
            SadBlock x = new SadBlock();
            answers(x, i, v, due);
            Check.same("the cost after " + told(i, v), seen(x, i), due);
            set(x, i, 85);
            answers(x, i, v, due);
            Check.same("the cost after 85 and " + told(i, v), seen(x, i), due);
        }
    }

    private void highBitsAreDropped() {
        for (int low = 0; low < 256; low++) {
            for (int bit = 8; bit < 32; bit++) {
                SadBlock x = new SadBlock();
                int v = low | 1 << bit;
                answers(x, count - 1, v, low);
                Check.same("the cost after " + told(count - 1, v), seen(x, count - 1), low);
            }
            SadBlock x = new SadBlock();
            answers(x, 0, low | -256, low);
            Check.same("the cost after " + told(0, low | -256), seen(x, 0), low);
        }
    }

    private void replaces() {
        for (int i : new int[] {0, count - 1}) {
            SadBlock x = new SadBlock();
            for (int before = 0; before < 256; before++) {
                for (int after = 0; after < 256; after++) {
                    set(x, i, before);
                    set(x, i, after);
                    int got = seen(x, i);
                    if (got != after) {
                        Check.same("the cost after " + before + ", then " + after, got, after);
                    }
                }
            }
        }
    }

    private void changesNothingElse() {
        for (State start : State.some()) {
            for (int i = 0; i < count; i++) {
                int at = i;
                int[] due = pixels(start).clone();
                due[i] ^= 255;
                becomes(start, told(i, due[i]), x -> set(x, at, due[at]), due);
            }
        }
    }

    private void sameAgain() {
        for (State start : State.some()) {
            int[] pixels = pixels(start);
            for (int i = 0; i < count; i++) {
                int at = i;
                start.staysAfter("the same value again, " + told(i, pixels[i]), x -> {
                    answers(x, at, pixels[at], pixels[at]);
                    answers(x, at, pixels[at] - 256, pixels[at]);
                });
            }
        }
    }

    private void minusOneOnlyIfRefused() {
        SadBlock x = new SadBlock();
        for (int i = 0; i < count; i++) {
            for (int v : INTS) {
                int got = set(x, i, v);
                if (got < 0 || got > 255) {
                    Check.holds(told(i, v) + " answered " + got + ": in 0..255", false);
                }
            }
        }
    }
}
