/** Promise 1. */
public final class NewObjectTest {
    public static void main(String[] args) {
        everyOffsetCostsNothing();
        Check.state("new object", x -> { }, new int[16], new int[64], 65535);
        objectsShareNothing();
        Check.end();
    }

    private static void everyOffsetCostsNothing() {
        SadBlock x = new SadBlock();
        Check.same("best() of a new object", x.best(), 65535);
        for (int dy = 0; dy <= 4; dy++) {
            for (int dx = 0; dx <= 4; dx++) {
                Check.same("new object: sadAt(" + dx + ", " + dy + ")", x.sadAt(dx, dy), 0);
            }
        }
    }

    private static void objectsShareNothing() {
        SadBlock used = new SadBlock();
        Check.fill(used, Check.someCur(), Check.someRef());
        used.take(1, 2);
        Check.state("new object beside a used one", x -> { }, new int[16], new int[64], 65535);
        SadBlock fresh = new SadBlock();
        Check.same("best() beside a used object", fresh.best(), 65535);
        fresh.take(0, 0);
        Check.same("the used object's best is its own", used.best() > 0, true);
    }
}
