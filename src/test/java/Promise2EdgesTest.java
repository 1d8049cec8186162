import java.util.function.Consumer;

/** Promise 2, sentence by sentence. */
public final class Promise2EdgesTest extends PixelEdges {
    private Promise2EdgesTest() {
        super("setCur", 16);
    }

    public static void main(String[] args) {
        new Promise2EdgesTest().run();
        Check.end();
    }

    @Override
    int set(SadBlock x, int i, int v) {
        return x.setCur(i, v);
    }

    @Override
    int[] pixels(State start) {
        return start.cur;
    }

    @Override
    void becomes(State start, String what, Consumer<SadBlock> calls, int[] due) {
        start.becomes(what, calls, due, start.ref, start.best);
    }

    @Override
    int seen(SadBlock x, int i) {
        return x.sadAt(i % 5, i / 5);
    }
}
