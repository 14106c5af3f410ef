/** Promise 15: count. */
public final class CountTest {
    private static final Due DUE = new Due("promise 15");

    public static void main(String[] args) {
        SampleTracker x = new SampleTracker(333);
        counts(x, "new", 1, 333, 0, 0, 0, 1, 9, 0, 0, 0);
        x.register(0, 9);
        x.aliquot(1, 1, 4);
        counts(x, "two", 1, 333, 36, 0, 0, 1, 45, 2, 2, 2);
        x.discard(1);
        counts(x, "discarded", 1, 333, 46, 0, 0, 1, 55, 2, 1, 3);
        x.undo();
        counts(x, "undone", 1, 333, 54, 0, 0, 1, 63, 2, 2, 2);
        x.undo();
        counts(x, "undone", 1, 333, 62, 0, 0, 1, 71, 1, 1, 1);
        x.move(1, 7);
        counts(x, "moved", 1, 333, 73, 0, 0, 1, 82, 1, 1, 2);
        x.register(99, 1);
        x.register(0, 0);
        counts(x, "refused", 1, 333, 73, 0, 0, 1, 82, 1, 1, 2);
        x.cut(4);
        counts(x, "a cut waits", 1, 333, 73, 0, 0, 1, 82, 1, 1, 2);
        x.discard(1);
        counts(x, "down", 0, 333, 77, 1, -1, -1, -1, -1, -1, -1);
        x.discard(1);
        counts(x, "refused", 0, 333, 77, 1, -1, -1, -1, -1, -1, -1);
        x.recover();
        counts(x, "up", 1, 333, 77, 1, 0, 1, 82, 1, 1, 2);
        x.compact();
        counts(x, "anew", 1, 333, 77 + 333 + 35 + 9, 1, 1, 2, 44, 1, 1, 0);
        x.cut(0);
        x.undo();
        x.discard(1);
        counts(x, "down", 0, 333, 454, 2, -1, -1, -1, -1, -1, -1);
        x.recover();
        x.recover();
        counts(x, "up", 1, 333, 454, 2, 1, 2, 44, 1, 1, 0);
        DUE.end();
    }

    private static void counts(SampleTracker x, String when, int... want) {
        for (int what = 0; what < want.length; what++) {
            DUE.is(when + ": count(" + what + ")", x.count(what), want[what]);
        }
        int[] others = {-1, 10, 11, Integer.MIN_VALUE, Integer.MAX_VALUE};
        for (int what : others) {
            DUE.is(when + ": count(" + what + ")", x.count(what), -1);
        }
    }
}
