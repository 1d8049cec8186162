import java.util.function.Consumer;

/** Promise 3, sentence by sentence. */
public final class Promise3EdgesTest extends PixelEdges {
    private Promise3EdgesTest() {
        super("setRef", 64);
    }

    public static void main(String[] args) {
        new Promise3EdgesTest().run();
        Check.end();
    }

    @Override
    int set(SadBlock x, int i, int v) {
        return x.setRef(i, v);
    }

    @Override
    int[] pixels(State start) {
        return start.ref;
    }

    @Override
    void becomes(State start, String what, Consumer<SadBlock> calls, int[] due) {
        start.becomes(what, calls, start.cur, due, start.best);
    }

    @Override
    int seen(SadBlock x, int i) {
        return x.sadAt(Math.min(i % 8, 4), Math.min(i / 8, 4));
    }
}
