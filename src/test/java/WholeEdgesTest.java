/** The sentences of "What it is", which hold for all promises. */
public final class WholeEdgesTest {
    private static final int[] EDGES = {
        Check.MIN, Check.MIN + 1, -65536, -256, -64, -16, -8, -5, -1, 0, 1, 3, 4, 5, 7, 8, 15, 16, 63,
        64, 127, 128, 255, 256, 65535, 65536, Check.MAX - 1, Check.MAX
    };

    public static void main(String[] args) {
        Check.sentence("Every object holds three pieces of state", WholeEdgesTest::objectsShareNothing);
        Check.sentence("cur: the pixel at row r, column c is at index r*4+c", WholeEdgesTest::blockLayout);
        Check.sentence("ref: the pixel at row r, column c is at index r*8+c", WholeEdgesTest::windowLayout);
        Check.sentence("A pixel is always read as unsigned, giving a value 0..255",
            WholeEdgesTest::unsigned);
        Check.sentence("Nothing in this class ever throws", WholeEdgesTest::nothingThrows);
        Check.sentence("Refusals are result codes: -1 for setCur, setRef and sadAt, false for take",
            WholeEdgesTest::refusals);
        Check.sentence("best() never refuses", WholeEdgesTest::bestNeverRefuses);
        Check.end();
    }

    /** A second object is used to the full between the making and the looking at the first. */
    private static void objectsShareNothing() {
        for (State start : State.some()) {
            for (State other : State.some()) {
                start.staysAfter("another object with " + other.name, x -> {
                    SadBlock y = other.made();
                    y.take(1, 3);
                    y.sadAt(3, 1);
                });
            }
        }
        SadBlock x = State.mixed(700).made();
        SadBlock y = State.mixed(40).made();
        Check.same("best() of the first of two", x.best(), 700);
        Check.same("best() of the second of two", y.best(), 40);
    }

    private static void blockLayout() {
        for (int r = 0; r < 4; r++) {
            for (int c = 0; c < 4; c++) {
                // Best 0 ends after the first row with a difference, so the answer tells the row.
                SadBlock x = State.flat(0, 0, 0).made();
                x.setCur(r * 4 + c, 100);
                for (int later = r + 1; later < 4; later++) {
                    x.setCur(later * 4, 50);
                }
                Check.same("row " + r + ", column " + c, x.sadAt(0, 0), 100);
                x.setRef(r * 8 + c, 100);
                Check.same("row " + r + ", column " + c + ", met", x.sadAt(0, 0), r == 3 ? 0 : 50);
            }
        }
    }

    private static void windowLayout() {
        for (int r = 0; r < 8; r++) {
            for (int c = 0; c < 8; c++) {
                SadBlock x = new SadBlock();
                x.setRef(r * 8 + c, 100);
                for (int at = 0; at < 25; at++) {
                    int dx = at % 5;
                    int dy = at / 5;
                    boolean in = dy <= r && r <= dy + 3 && dx <= c && c <= dx + 3;
                    String what = "row " + r + ", column " + c + ": sadAt(" + dx + ", " + dy + ")";
                    Check.same(what, x.sadAt(dx, dy), in ? 100 : 0);
                }
            }
        }
    }

    private static void unsigned() {
        for (int v = 0; v < 256; v++) {
            SadBlock x = new SadBlock();
            x.setCur(6, v);
            Check.same("block pixel " + v, x.sadAt(0, 0), v);
            x.setCur(6, 0);
            x.setRef(8 + 2, v);
            Check.same("window pixel " + v, x.sadAt(0, 0), v);
            x.setCur(6, 255);
            Check.same("window pixel " + v + " against 255", x.sadAt(0, 0), 255 - v);
            x.setCur(6, v);
            Check.same("both pixels " + v, x.sadAt(0, 0), 0);
        }
    }

    private static void nothingThrows() {
        new SadBlock();
        for (State start : State.some()) {
            for (int a : EDGES) {
                for (int b : EDGES) {
                    SadBlock x = start.made();
                    x.setCur(a, b);
                    x.setRef(a, b);
                    x.sadAt(a, b);
                    x.take(a, b);
                    x.best();
                    x.sadAt(b, a);
                    x.take(b, a);
                }
            }
        }
    }

    private static void refusals() {
        for (State start : State.some()) {
            SadBlock x = start.made();
            for (int a : EDGES) {
                for (int b : EDGES) {
                    if (a < 0 || a >= 64) {
                        Check.same("setCur(" + a + ", " + b + ")", x.setCur(a, b), -1);
                        Check.same("setRef(" + a + ", " + b + ")", x.setRef(a, b), -1);
                        Check.same("sadAt(" + a + ", " + b + ")", x.sadAt(a, b), -1);
                        Check.same("sadAt(" + b + ", " + a + ")", x.sadAt(b, a), -1);
                        Check.same("take(" + a + ", " + b + ")", x.take(a, b), false);
                        Check.same("take(" + b + ", " + a + ")", x.take(b, a), false);
                    }
                }
            }
            Check.same(start.name + ": best() after refusals", x.best(), start.best);
        }
    }

    private static void bestNeverRefuses() {
        for (State start : State.some()) {
            SadBlock x = start.made();
            Check.same(start.name + ": best()", x.best(), start.best);
            x.setCur(-1, 0);
            x.setRef(-1, 0);
            x.sadAt(-1, 0);
            x.take(-1, 0);
            Check.same(start.name + ": best() after refused calls", x.best(), start.best);
        }
    }
}
