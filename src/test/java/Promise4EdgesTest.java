/** Promise 4, sentence by sentence. */
public final class Promise4EdgesTest {
    private static final int[] INTS = Check.manyInts();
    /** What stands beside a refused offset: accepted ones, and refused ones near and far. */
    private static final int[] BESIDE = {Check.MIN, -5, -1, 0, 1, 2, 3, 4, 5, 8, Check.MAX};

    public static void main(String[] args) {
        Check.sentence("sadAt is defined for every int dx and every int dy",
            Promise4EdgesTest::everyIntIsAnswered);
        Check.sentence("If dx < 0 it answers -1", () -> refusedColumns(true));
        Check.sentence("If dx > 4 it answers -1", () -> refusedColumns(false));
        Check.sentence("If dy < 0 it answers -1", () -> refusedRows(true));
        Check.sentence("If dy > 4 it answers -1", () -> refusedRows(false));
        Check.sentence("every combination with Integer.MIN_VALUE or Integer.MAX_VALUE",
            Promise4EdgesTest::leastAndGreatest);
        Check.sentence("Accepted offsets (dx and dy both in 0..4)", Promise4EdgesTest::acceptedOffsets);
        Check.sentence("block pixel (r,c) is paired with ref(dy+r, dx+c)", Promise4EdgesTest::pairs);
        Check.sentence("all paired pixels lie inside the 8x8 window", Promise4EdgesTest::staysInside);
        Check.sentence("the absolute value, both pixels read unsigned (0..255)",
            Promise4EdgesTest::absoluteUnsigned);
        Check.sentence("Each term is therefore in 0..255", Promise4EdgesTest::termRange);
        Check.sentence("After each whole row the sum so far is compared: not within a row",
            Promise4EdgesTest::onlyAtRowEnds);
        Check.sentence("after row 0, row 1, row 2, and also after the last row, row 3",
            Promise4EdgesTest::atEachRowEnd);
        Check.sentence("best as it is at the moment of the call", Promise4EdgesTest::bestOfTheMoment);
        Check.sentence("strictly greater than best: that partial sum is answered at once",
            Promise4EdgesTest::oneAboveEnds);
        Check.sentence("otherwise the summation goes on with the next row",
            Promise4EdgesTest::oneBelowGoesOn);
        Check.sentence("If no row end gave a sum strictly greater than best, the full sum is answered",
            Promise4EdgesTest::fullIfNeverAbove);
        Check.sentence("Every answer for an accepted offset is in 0..4080",
            Promise4EdgesTest::answerRange);
        Check.sentence("If the full sum is less than or equal to best, exactly the full sum",
            Promise4EdgesTest::fullUpToBest);
        Check.sentence("If the full sum is strictly greater than best, the sum after the first row above",
            Promise4EdgesTest::firstRowAbove);
        Check.sentence("strictly greater than best and at most the full sum",
            Promise4EdgesTest::betweenBestAndFull);
        Check.sentence("A sum equal to best does not end the summation early",
            Promise4EdgesTest::equalGoesOn);
        Check.sentence("While best is 4080 or more, the answer is always the full sum",
            Promise4EdgesTest::highBestNeverEnds);
        Check.sentence("When best is 0, the answer is 0 if the compared pixels are all equal",
            Promise4EdgesTest::zeroBestAllEqual);
        Check.sentence("When best is 0, otherwise the sum after the first row with a difference",
            Promise4EdgesTest::zeroBestFirstDifference);
        Check.sentence("sadAt never alters cur, ref or best, for any argument",
            Promise4EdgesTest::changesNothing);
        Check.sentence("Calling it again with the same arguments on the same state: the same answer",
            Promise4EdgesTest::sameAgain);
        Check.end();
    }

    private interface Offset {
        void at(int dx, int dy);
    }

    private static void everyOffset(Offset test) {
        for (int dy = 0; dy <= 4; dy++) {
            for (int dx = 0; dx <= 4; dx++) {
                test.at(dx, dy);
            }
        }
    }

    private static boolean accepted(int dx, int dy) {
        return dx >= 0 && dx <= 4 && dy >= 0 && dy <= 4;
    }

    private static void answers(State start, SadBlock x, int dx, int dy, int due) {
        int got = x.sadAt(dx, dy);
        if (got != due) {
            Check.same(start.name + ": sadAt(" + dx + ", " + dy + ")", got, due);
        }
    }

    private static void owes(State start, SadBlock x, int dx, int dy) {
        answers(start, x, dx, dy, accepted(dx, dy) ? start.due(dx, dy) : -1);
    }

    private static void everyIntIsAnswered() {
        for (State start : State.some()) {
            SadBlock x = start.made();
            for (int any : INTS) {
                for (int beside : BESIDE) {
                    owes(start, x, any, beside);
                    owes(start, x, beside, any);
                }
            }
        }
    }

    private static boolean refused(int d, boolean tooSmall) {
        return tooSmall ? d < 0 : d > 4;
    }

    private static void refusedColumns(boolean tooSmall) {
        for (State start : State.some()) {
            SadBlock x = start.made();
            for (int dx : INTS) {
                for (int dy : BESIDE) {
                    if (refused(dx, tooSmall)) {
                        answers(start, x, dx, dy, -1);
                    }
                }
            }
        }
    }

    private static void refusedRows(boolean tooSmall) {
        for (State start : State.some()) {
            SadBlock x = start.made();
            for (int dy : INTS) {
                for (int dx : BESIDE) {
                    if (refused(dy, tooSmall)) {
                        answers(start, x, dx, dy, -1);
                    }
                }
            }
        }
    }

    private static void leastAndGreatest() {
        for (State start : State.some()) {
            SadBlock x = start.made();
            for (int far : new int[] {Check.MIN, Check.MAX}) {
                for (int any : INTS) {
                    answers(start, x, far, any, -1);
                    answers(start, x, any, far, -1);
                }
            }
        }
    }

    private static void acceptedOffsets() {
        for (State start : State.some()) {
            SadBlock x = start.made();
            everyOffset((dx, dy) -> {
                Check.holds(start.name + ": sadAt(" + dx + ", " + dy + ") not refused", x.sadAt(dx, dy) >= 0);
                owes(start, x, dx, dy);
            });
        }
    }

    /** The two pixels that meet are alike and stand out, so the cost is 0 only if they do meet. */
    private static void pairs() {
        everyOffset((dx, dy) -> {
            for (int i = 0; i < 16; i++) {
                int r = i / 4;
                int c = i % 4;
                SadBlock x = new SadBlock();
                x.setCur(r * 4 + c, 200);
                x.setRef((dy + r) * 8 + dx + c, 200);
                String pair = "block pixel " + r + ", " + c + " at " + dx + ", " + dy;
                Check.same(pair, x.sadAt(dx, dy), 0);
                x.setRef((dy + r) * 8 + dx + c, 0);
                Check.same(pair + " without its own", x.sadAt(dx, dy), 200);
            }
        });
    }

    private static void staysInside() {
        everyOffset((dx, dy) -> {
            for (int j = 0; j < 64; j++) {
                SadBlock x = new SadBlock();
                x.setRef(j, 9);
                int r = j / 8 - dy;
                int c = j % 8 - dx;
                boolean inside = r >= 0 && r <= 3 && c >= 0 && c <= 3;
                Check.same("9 at " + j + ": sadAt(" + dx + ", " + dy + ")", x.sadAt(dx, dy), inside ? 9 : 0);
            }
        });
        // The last pixel of the window counts once, and only in the last part.
        SadBlock x = new SadBlock();
        x.setRef(63, 255);
        Check.same("255 in the last pixel: sadAt(4, 4)", x.sadAt(4, 4), 255);
        Check.same("255 in the last pixel: sadAt(3, 4)", x.sadAt(3, 4), 0);
        Check.same("255 in the last pixel: sadAt(4, 3)", x.sadAt(4, 3), 0);
    }

    private static void absoluteUnsigned() {
        for (int i = 0; i < 16; i++) {
            SadBlock x = new SadBlock();
            for (int a = 0; a < 256; a += i == 0 ? 1 : 5) {
                x.setCur(i, a);
                for (int b = 0; b < 256; b += i == 0 ? 1 : 3) {
                    x.setRef(i / 4 * 8 + i % 4, b);
                    Check.same(a + " against " + b + " in pixel " + i, x.sadAt(0, 0), Math.abs(a - b));
                }
            }
        }
    }

    private static void termRange() {
        SadBlock x = new SadBlock();
        int[][] ends = {{0, 0, 0}, {255, 255, 0}, {255, 0, 255}, {0, 255, 255}, {127, 128, 1},
            {128, 127, 1}, {-1, 0, 255}, {-128, 127, 1}, {0, -128, 128}};
        for (int[] end : ends) {
            x.setCur(10, end[0]);
            x.setRef(2 * 8 + 2, end[1]);
            Check.same(end[0] + " against " + end[1], x.sadAt(0, 0), end[2]);
        }
    }

    private static void onlyAtRowEnds() {
        for (int best = 0; best < 255; best += 5) {
            for (int row = 0; row < 4; row++) {
                // The row's first pixel is above the best, and three more must still be added.
                int[] cur = new int[16];
                for (int i = row * 4; i < 16; i++) {
                    cur[i] = 255;
                }
                State start = new State("255 from row " + row, cur, new int[64], best);
                answers(start, start.made(), 2, 3, 4 * 255);
            }
        }
    }

    private static void atEachRowEnd() {
        answersAtOrigin(State.rows(50, 51, 200, 200, 200), 51);
        answersAtOrigin(State.rows(50, 0, 51, 200, 200), 51);
        answersAtOrigin(State.rows(50, 0, 0, 51, 200), 51);
        answersAtOrigin(State.rows(50, 0, 0, 0, 51), 51);
        answersAtOrigin(State.rows(50, 10, 41, 200, 200), 51);
        answersAtOrigin(State.rows(50, 10, 20, 21, 200), 51);
        answersAtOrigin(State.rows(50, 10, 20, 20, 200), 250);
    }

    private static void answersAtOrigin(State start, int due) {
        answers(start, start.made(), 0, 0, due);
    }

    private static void bestOfTheMoment() {
        SadBlock x = new SadBlock();
        int[] rows = {100, 90, 80, 70};
        for (int r = 0; r < 4; r++) {
            x.setCur(r * 4, rows[r]);
            x.setRef((4 + r) * 8 + 4, rows[r]);
        }
        int lastPixel = 63;
        int[][] bestAndDue = {{255, 270}, {190, 270}, {189, 190}, {100, 190}, {99, 100}, {0, 100}};
        Check.same("best 65535: sadAt(0, 0)", x.sadAt(0, 0), 340);
        for (int[] step : bestAndDue) {
            x.setRef(lastPixel, step[0]);
            Check.holds("take of " + step[0], x.take(4, 4));
            Check.same("best " + step[0] + ": sadAt(0, 0)", x.sadAt(0, 0), step[1]);
        }
    }

    private static void oneAboveEnds() {
        for (int best = 0; best < 255; best++) {
            answersAtOrigin(State.rows(best, best + 1, 1, 1, 1), best + 1);
            answersAtOrigin(State.rows(best, 0, best + 1, 1, 1), best + 1);
            answersAtOrigin(State.rows(best, best, 0, 1, 255), best + 1);
        }
    }

    private static void oneBelowGoesOn() {
        for (int best = 1; best <= 255; best++) {
            answersAtOrigin(State.rows(best, best - 1, 255, 255, 255), best + 254);
            answersAtOrigin(State.rows(best, 0, best - 1, 255, 255), best + 254);
            answersAtOrigin(State.rows(best, 0, 0, best - 1, 255), best + 254);
            answersAtOrigin(State.rows(best, best - 1, 0, 0, 0), best - 1);
        }
    }

    private static void fullIfNeverAbove() {
        for (int best = 0; best <= 400; best += 4) {
            answersAtOrigin(State.rows(best, best / 4, best / 4, best / 4, best / 4), best);
            answersAtOrigin(State.rows(best, 0, 0, 0, best), best);
        }
    }

    private static void answerRange() {
        for (State start : State.some()) {
            SadBlock x = start.made();
            everyOffset((dx, dy) -> {
                int got = x.sadAt(dx, dy);
                Check.holds(start.name + ": " + got + " in 0..4080", got >= 0 && got <= 4080);
            });
        }
        answersAtOrigin(State.flat(255, 0, State.FIRST_BEST), 4080);
        answersAtOrigin(State.flat(0, 255, State.FIRST_BEST), 4080);
        answersAtOrigin(State.flat(255, 255, State.FIRST_BEST), 0);
        answersAtOrigin(State.flat(255, 0, 4079), 4080);
        answersAtOrigin(State.flat(0, 255, 4079), 4080);
    }

    private static void fullUpToBest() {
        for (int full = 0; full <= 4080; full += 3) {
            answersAtOrigin(State.costing(full, full), full);
            answersAtOrigin(State.costing(full, Math.min(full + 1, 4080)), full);
            answersAtOrigin(State.costing(full, State.FIRST_BEST), full);
        }
    }

    /** The bests are those about each row end of each part, where one more or less matters. */
    private static void aboutEveryRowEnd(Sighting test) {
        everyOffset((dx, dy) -> {
            State pixels = State.mixed(State.FIRST_BEST);
            for (int row = 0; row < 4; row++) {
                for (int near = -1; near <= 1; near++) {
                    State start = State.mixed(Math.max(pixels.endOfRow(row, dx, dy) + near, 0));
                    test.of(start, dx, dy, start.made().sadAt(dx, dy));
                }
            }
        });
    }

    private interface Sighting {
        void of(State start, int dx, int dy, int got);
    }

    private static void firstRowAbove() {
        aboutEveryRowEnd((start, dx, dy, got) -> {
            if (start.full(dx, dy) > start.best) {
                int row = 0;
                while (start.endOfRow(row, dx, dy) <= start.best) {
                    row++;
                }
                String call = start.name + ": sadAt(" + dx + ", " + dy + ")";
                Check.same(call, got, start.endOfRow(row, dx, dy));
            }
        });
    }

    private static void betweenBestAndFull() {
        aboutEveryRowEnd((start, dx, dy, got) -> {
            int full = start.full(dx, dy);
            if (full > start.best) {
                String call = start.name + ": sadAt(" + dx + ", " + dy + ") answered " + got;
                Check.holds(call + ": above best", got > start.best);
                Check.holds(call + ": at most " + full, got <= full);
            }
        });
    }

    private static void equalGoesOn() {
        for (int best = 0; best <= 255; best++) {
            answersAtOrigin(State.rows(best, best, 7, 20, 30), best + 7);
            answersAtOrigin(State.rows(best, 0, best, 7, 30), best + 7);
            answersAtOrigin(State.rows(best, 0, 0, best, 7), best + 7);
            answersAtOrigin(State.rows(best, best, 0, 0, 7), best + 7);
            answersAtOrigin(State.rows(best, best, 0, 0, 0), best);
        }
    }

    private static void highBestNeverEnds() {
        for (int best : new int[] {4080, State.FIRST_BEST}) {
            State[] starts = {State.mixed(best), State.flat(255, 0, best), State.flat(0, 255, best),
                State.flat(254, 0, best), State.flat(77, 77, best)};
            for (State start : starts) {
                SadBlock x = start.made();
                everyOffset((dx, dy) -> answers(start, x, dx, dy, start.full(dx, dy)));
            }
        }
    }

    private static void zeroBestAllEqual() {
        for (int pixel : new int[] {0, 1, 127, 128, 255}) {
            State start = State.flat(pixel, pixel, 0);
            SadBlock x = start.made();
            everyOffset((dx, dy) -> answers(start, x, dx, dy, 0));
        }
        // Equal in the part alone: what stands around it does not count.
        everyOffset((dx, dy) -> {
            int[] cur = Check.someCur();
            int[] ref = Check.someRef();
            for (int i = 0; i < 16; i++) {
                ref[(dy + i / 4) * 8 + dx + i % 4] = cur[i];
            }
            State start = new State("block at " + dx + ", " + dy, cur, ref, 0);
            answers(start, start.made(), dx, dy, 0);
        });
    }

    private static void zeroBestFirstDifference() {
        for (int i = 0; i < 16; i++) {
            int[] cur = new int[16];
            int rowCost = 0;
            for (int k = i; k < 16; k++) {
                cur[k] = k + 1;
                rowCost += k / 4 == i / 4 ? k + 1 : 0;
            }
            State start = new State("first difference in pixel " + i, cur, new int[64], 0);
            SadBlock x = start.made();
            int due = rowCost;
            everyOffset((dx, dy) -> answers(start, x, dx, dy, due));
        }
        // The smallest difference there is must end it as well.
        answersAtOrigin(State.rows(0, 1, 200, 200, 200), 1);
        answersAtOrigin(State.rows(0, 0, 1, 200, 200), 1);
        answersAtOrigin(State.rows(0, 0, 0, 1, 200), 1);
        answersAtOrigin(State.rows(0, 0, 0, 0, 1), 1);
    }

    private static void changesNothing() {
        for (State start : State.some()) {
            for (int dy : BESIDE) {
                for (int dx : BESIDE) {
                    start.staysAfter("sadAt(" + dx + ", " + dy + ")", x -> x.sadAt(dx, dy));
                }
            }
            start.staysAfter("sadAt with many ints", x -> {
                for (int any : INTS) {
                    x.sadAt(any, 2);
                    x.sadAt(2, any);
                    x.sadAt(any, any);
                }
            });
        }
    }

    private static void sameAgain() {
        for (State start : State.some()) {
            SadBlock x = start.made();
            for (int dy : BESIDE) {
                for (int dx : BESIDE) {
                    int once = x.sadAt(dx, dy);
                    for (int n = 0; n < 5; n++) {
                        answers(start, x, dx, dy, once);
                    }
                }
            }
            // And after all the other calls that change nothing have come between.
            everyOffset((dx, dy) -> owes(start, x, dx, dy));
        }
    }
}
