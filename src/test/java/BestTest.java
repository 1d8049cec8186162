/** Promise 6. */
public final class BestTest {
    private static final int[] CUR = Check.someCur();
    private static final int[] REF = Check.someRef();

    public static void main(String[] args) {
        changesNothing();
        changesOnlyThroughATakeThatAnswersTrue();
        neverRises();
        Check.end();
    }

    private static void changesNothing() {
        Check.state("best() many times", x -> {
            Check.fill(x, CUR, REF);
            for (int i = 0; i < 100; i++) {
                Check.same("best() again", x.best(), 65535);
            }
        }, CUR, REF, 65535);
        Check.state("best() many times after a take", x -> {
            x.setCur(2, 31);
            x.take(4, 1);
            for (int i = 0; i < 100; i++) {
                Check.same("best() again, after a take", x.best(), 31);
            }
            Check.fill(x, CUR, REF);
        }, CUR, REF, 31);
    }

    private static void changesOnlyThroughATakeThatAnswersTrue() {
        SadBlock x = new SadBlock();
        x.setCur(0, 40);
        Check.same("best() after setCur", x.best(), 65535);
        x.setRef(63, 4);
        Check.same("best() after setRef", x.best(), 65535);
        x.setCur(-1, 0);
        x.setRef(64, 0);
        Check.same("best() after refused pixels", x.best(), 65535);
        x.sadAt(0, 0);
        x.sadAt(5, 0);
        Check.same("best() after sadAt", x.best(), 65535);
        x.take(0, 5);
        x.take(Check.MIN, Check.MAX);
        Check.same("best() after refused takes", x.best(), 65535);
        x.take(4, 4);
        Check.same("best() after a take of 44", x.best(), 44);
        x.take(4, 4);
        Check.same("best() after the same take", x.best(), 44);
        x.take(0, 0);
        Check.same("best() after a take of 40", x.best(), 40);
        x.take(4, 4);
        Check.same("best() after a take of more", x.best(), 40);
    }

    private static void neverRises() {
        SadBlock x = new SadBlock();
        int before = x.best();
        for (int step = 0; step < 600; step++) {
            int v = Math.abs(255 - step);
            for (int i = 0; i < 16; i++) {
                x.setCur(i, v);
            }
            boolean kept = x.take(step % 6, step % 5);
            int after = x.best();
            Check.same("step " + step + ": lower just when kept", after < before, kept);
            Check.same("step " + step + ": never higher", after <= before, true);
            Check.same("step " + step + ": in 0..65535", after >= 0 && after <= 65535, true);
            before = after;
        }
        Check.same("best() at the end", before, 0);
    }
}
