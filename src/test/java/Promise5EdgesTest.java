/** Promise 5, sentence by sentence. */
public final class Promise5EdgesTest {
    private static final int[] INTS = Check.manyInts();
    private static final int[] BESIDE = {Check.MIN, -5, -1, 0, 1, 2, 3, 4, 5, 8, Check.MAX};
    private static final int[] REFUSED = {Check.MIN, Check.MIN + 4, -5, -1, 5, 8, 260, Check.MAX};

    public static void main(String[] args) {
        Check.sentence("take is defined for every int dx and every int dy",
            Promise5EdgesTest::everyIntIsAnswered);
        Check.sentence("s is what sadAt(dx, dy) answers in the current state",
            Promise5EdgesTest::followsSadAt);
        Check.sentence("If s >= 0 and s < best: best becomes s, and the answer is true",
            Promise5EdgesTest::lowerIsKept);
        Check.sentence("If s >= 0: a cost of 0 is kept too", Promise5EdgesTest::zeroIsKept);
        Check.sentence("Otherwise: the answer is false, and nothing changes",
            Promise5EdgesTest::higherIsNotKept);
        Check.sentence("For a refused dx the answer is false and nothing changes",
            Promise5EdgesTest::refusedColumn);
        Check.sentence("For a refused dy the answer is false and nothing changes",
            Promise5EdgesTest::refusedRow);
        Check.sentence("When the summation ended early, the answer is false and nothing changes",
            Promise5EdgesTest::earlyEndIsNotKept);
        Check.sentence("When s equals best, the answer is false and nothing changes",
            Promise5EdgesTest::equalIsNotKept);
        Check.sentence("When the answer is true, the new best is the full sum, a value in 0..4080",
            Promise5EdgesTest::fullSumIsKept);
        Check.sentence("take never alters any pixel of cur or ref", Promise5EdgesTest::pixelsStay);
        Check.sentence("It never raises best; best only ever becomes strictly smaller",
            Promise5EdgesTest::onlyEverSmaller);
        Check.sentence("and never negative", Promise5EdgesTest::neverNegative);
        Check.end();
    }

    private static String told(State start, int dx, int dy) {
        return start.name + ": take(" + dx + ", " + dy + ")";
    }

    private static boolean accepted(int dx, int dy) {
        return dx >= 0 && dx <= 4 && dy >= 0 && dy <= 4;
    }

    private static void answers(State start, SadBlock x, int dx, int dy, boolean due, int bestDue) {
        boolean got = x.take(dx, dy);
        int best = x.best();
        if (got != due || best != bestDue) {
            Check.same(told(start, dx, dy), got, due);
            Check.same("best() after " + told(start, dx, dy), best, bestDue);
        }
    }

    private static void everyIntIsAnswered() {
        for (State start : State.some()) {
            SadBlock x = start.made();
            int best = start.best;
            for (int any : INTS) {
                for (int beside : BESIDE) {
                    best = oneTake(start, x, any, beside, best);
                    best = oneTake(start, x, beside, any, best);
                }
            }
        }
    }

    private static int oneTake(State start, SadBlock x, int dx, int dy, int best) {
        boolean lower = accepted(dx, dy) && start.full(dx, dy) < best;
        int after = lower ? start.full(dx, dy) : best;
        answers(start, x, dx, dy, lower, after);
        return after;
    }

    private static void followsSadAt() {
        for (State start : State.some()) {
            for (int dy : BESIDE) {
                for (int dx : BESIDE) {
                    SadBlock x = start.made();
                    int s = x.sadAt(dx, dy);
                    boolean lower = s >= 0 && s < start.best;
                    answers(start, x, dx, dy, lower, lower ? s : start.best);
                }
            }
        }
    }

    private static void lowerIsKept() {
        for (int best = 1; best <= 4080; best++) {
            State start = State.costing(best - 1, best);
            answers(start, start.made(), 0, 0, true, best - 1);
        }
        State highest = State.flat(255, 0, State.FIRST_BEST);
        answers(highest, highest.made(), 4, 4, true, 4080);
    }

    private static void zeroIsKept() {
        for (int best : new int[] {1, 2, 255, 4080, State.FIRST_BEST}) {
            State start = State.costing(0, best);
            answers(start, start.made(), 4, 0, true, 0);
        }
    }

    private static void higherIsNotKept() {
        for (int best = 0; best < 4080; best++) {
            State start = State.costing(best + 1, best);
            answers(start, start.made(), 0, 4, false, best);
        }
        for (int best : new int[] {0, 1, 300, 4000}) {
            State.costing(best + 1, best).staysAfter("take of one more", x -> x.take(0, 0));
            State.costing(4080, best).staysAfter("take of 4080", x -> x.take(0, 0));
        }
    }

    private static void refusedColumn() {
        for (State start : State.some()) {
            for (int dx : REFUSED) {
                for (int dy : BESIDE) {
                    start.staysAfter(told(start, dx, dy),
                        x -> answers(start, x, dx, dy, false, start.best));
                }
            }
            SadBlock x = start.made();
            for (int dx : INTS) {
                if (!accepted(dx, 0)) {
                    answers(start, x, dx, 0, false, start.best);
                    answers(start, x, dx, 4, false, start.best);
                }
            }
        }
    }

    private static void refusedRow() {
        for (State start : State.some()) {
            for (int dy : REFUSED) {
                for (int dx : BESIDE) {
                    start.staysAfter(told(start, dx, dy),
                        x -> answers(start, x, dx, dy, false, start.best));
                }
            }
            SadBlock x = start.made();
            for (int dy : INTS) {
                if (!accepted(0, dy)) {
                    answers(start, x, 0, dy, false, start.best);
                    answers(start, x, 4, dy, false, start.best);
                }
            }
        }
    }

    private static void earlyEndIsNotKept() {
        State[] starts = {
            State.rows(50, 51, 1, 1, 1), State.rows(50, 50, 1, 1, 1), State.rows(50, 49, 1, 1, 1),
            State.rows(50, 0, 51, 9, 9), State.rows(50, 0, 0, 51, 9), State.rows(0, 1, 1, 1, 1),
            State.rows(0, 0, 1, 0, 0), State.flat(255, 0, 1019), State.flat(0, 255, 2039),
            State.flat(255, 0, 3059), State.mixed(0), State.mixed(100)
        };
        for (State start : starts) {
            Check.holds(start.name + ": set-up, ends early", start.due(2, 2) > start.best);
            start.staysAfter(told(start, 2, 2), x -> answers(start, x, 2, 2, false, start.best));
        }
    }

    private static void equalIsNotKept() {
        for (int best = 0; best <= 4080; best++) {
            State start = State.costing(best, best);
            answers(start, start.made(), 1, 1, false, best);
        }
        for (int best : new int[] {0, 1, 255, 2000, 4080}) {
            State start = State.costing(best, best);
            start.staysAfter("take of the same cost", x -> {
                x.take(0, 0);
                x.take(4, 4);
                x.take(0, 0);
            });
        }
    }

    private static void fullSumIsKept() {
        for (State start : State.some()) {
            for (int at = 0; at < 25; at++) {
                SadBlock x = start.made();
                int dx = at % 5;
                int dy = at / 5;
                if (x.take(dx, dy)) {
                    Check.same("best() after " + told(start, dx, dy), x.best(), start.full(dx, dy));
                    Check.holds("best() in 0..4080 after " + told(start, dx, dy),
                        x.best() >= 0 && x.best() <= 4080);
                } else {
                    Check.holds(told(start, dx, dy) + " false though lower",
                        start.full(dx, dy) >= start.best);
                }
            }
        }
    }

    private static void pixelsStay() {
        for (State start : State.some()) {
            for (int dy : BESIDE) {
                for (int dx : BESIDE) {
                    boolean lower = accepted(dx, dy) && start.full(dx, dy) < start.best;
                    int after = lower ? start.full(dx, dy) : start.best;
                    start.becomes(told(start, dx, dy), x -> x.take(dx, dy), start.cur, start.ref, after);
                }
            }
        }
    }

    private static void onlyEverSmaller() {
        SadBlock x = new SadBlock();
        int before = x.best();
        for (int step = 0; step < 12000; step++) {
            int cost = Math.abs(4080 - step % 8161);
            int[] cur = State.spread(cost);
            for (int i = 0; i < 16; i++) {
                x.setCur(i, cur[i]);
            }
            boolean kept = x.take(step % 6 - 1, step % 5);
            int after = x.best();
            Check.holds("step " + step + ": from " + before + " to " + after,
                kept ? after < before : after == before);
            before = after;
        }
    }

    private static void neverNegative() {
        State start = State.flat(0, 0, 0);
        SadBlock x = start.made();
        for (int any : INTS) {
            for (int beside : BESIDE) {
                answers(start, x, any, beside, false, 0);
                answers(start, x, beside, any, false, 0);
            }
        }
        State down = State.costing(0, 1);
        SadBlock y = down.made();
        answers(down, y, 0, 0, true, 0);
        answers(down, y, 0, 0, false, 0);
        answers(down, y, -1, 0, false, 0);
    }
}
