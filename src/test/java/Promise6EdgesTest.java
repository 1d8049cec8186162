/** Promise 6, sentence by sentence. */
public final class Promise6EdgesTest {
    private static final int[] INTS = Check.manyInts();

    public static void main(String[] args) {
        Check.sentence("best() answers the current value of best", Promise6EdgesTest::answersTheBest);
        Check.sentence("and changes nothing", Promise6EdgesTest::changesNothing);
        Check.sentence("It is 65535 for a new object", Promise6EdgesTest::newObject);
        Check.sentence("changes only through a take that answers true: not through setCur",
            Promise6EdgesTest::notThroughSetCur);
        Check.sentence("changes only through a take that answers true: not through setRef",
            Promise6EdgesTest::notThroughSetRef);
        Check.sentence("changes only through a take that answers true: not through sadAt",
            Promise6EdgesTest::notThroughSadAt);
        Check.sentence("changes only through a take that answers true: not through one that answers"
            + " false", Promise6EdgesTest::notThroughAFalseTake);
        Check.sentence("it is always in 0..65535", Promise6EdgesTest::range);
        Check.sentence("once any take has answered true it is in 0..4080",
            Promise6EdgesTest::rangeAfterATake);
        Check.sentence("Successive values of best() never increase", Promise6EdgesTest::neverIncreases);
        Check.end();
    }

    private static void staysAt(State start, SadBlock x, String what) {
        int got = x.best();
        if (got != start.best) {
            Check.same(start.name + ": best() after " + what, got, start.best);
        }
    }

    private static void answersTheBest() {
        for (int best = 0; best <= 4080; best++) {
            SadBlock x = new SadBlock();
            Check.fill(x, State.spread(best), new int[64]);
            Check.holds("take of " + best, x.take(3, 1));
            Check.same("best() after a take of " + best, x.best(), best);
        }
    }

    private static void changesNothing() {
        for (State start : State.some()) {
            start.staysAfter("best() many times", x -> {
                for (int n = 0; n < 1000; n++) {
                    staysAt(start, x, "best()");
                }
            });
        }
    }

    private static void newObject() {
        for (int n = 0; n < 1000; n++) {
            SadBlock x = new SadBlock();
            Check.same("best() of a new object", x.best(), 65535);
            x.take(n % 5, n / 5 % 5);
        }
    }

    private static void notThroughSetCur() {
        for (State start : State.some()) {
            SadBlock x = start.made();
            for (int any : INTS) {
                x.setCur(any, any);
                x.setCur(any & 15, any);
                staysAt(start, x, "setCur with " + any);
            }
        }
    }

    private static void notThroughSetRef() {
        for (State start : State.some()) {
            SadBlock x = start.made();
            for (int any : INTS) {
                x.setRef(any, any);
                x.setRef(any & 63, any);
                staysAt(start, x, "setRef with " + any);
            }
        }
    }

    private static void notThroughSadAt() {
        for (State start : State.some()) {
            SadBlock x = start.made();
            for (int any : INTS) {
                for (int d = -1; d <= 5; d++) {
                    x.sadAt(any, d);
                    x.sadAt(d, any);
                }
                staysAt(start, x, "sadAt with " + any);
            }
        }
    }

    private static void notThroughAFalseTake() {
        for (State start : State.some()) {
            for (int dy = -1; dy <= 5; dy++) {
                for (int dx = -1; dx <= 5; dx++) {
                    SadBlock x = start.made();
                    if (!x.take(dx, dy)) {
                        staysAt(start, x, "take(" + dx + ", " + dy + ")");
                    }
                }
            }
        }
        State start = State.costing(301, 300);
        SadBlock x = start.made();
        Check.same("take of one more", x.take(0, 0), false);
        staysAt(start, x, "a take of one more");
    }

    private static void range() {
        for (State start : State.some()) {
            SadBlock x = start.made();
            inRange(start, x, 65535);
            for (int any : INTS) {
                x.take(any, 2);
                x.take(any & 3, any);
                inRange(start, x, 65535);
            }
        }
    }

    private static void inRange(State start, SadBlock x, int most) {
        int got = x.best();
        if (got < 0 || got > most) {
            Check.holds(start.name + ": best() answered " + got + ": in 0.." + most, false);
        }
    }

    private static void rangeAfterATake() {
        State[] highest = {State.flat(255, 0, State.FIRST_BEST), State.flat(0, 255, State.FIRST_BEST)};
        for (State start : highest) {
            SadBlock x = start.made();
            Check.holds("take of the highest cost", x.take(0, 0));
            Check.same("best() after a take of the highest cost", x.best(), 4080);
        }
        for (State start : State.some()) {
            SadBlock x = start.made();
            boolean any = start.best != State.FIRST_BEST;
            for (int at = 0; at < 25; at++) {
                any |= x.take(at % 5, at / 5);
                inRange(start, x, any ? 4080 : 65535);
            }
        }
    }

    private static void neverIncreases() {
        SadBlock x = new SadBlock();
        int before = x.best();
        for (int cost = 4080; cost >= 0; cost--) {
            int higher = Math.min(cost + 2, 4080);
            for (int wanted : new int[] {higher, cost, higher}) {
                Check.fill(x, State.spread(wanted), new int[64]);
                x.sadAt(1, 1);
                x.take(1, 1);
                x.take(5, 1);
                int after = x.best();
                Check.holds("cost " + wanted + ": from " + before + " to " + after, after <= before);
                before = after;
            }
        }
        Check.same("best() at the end of the life", before, 0);
    }
}
