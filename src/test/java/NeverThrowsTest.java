/** No call throws, whatever its arguments and whatever state the object is in, behind its 512th call too. */
public final class NeverThrowsTest {
    private static final int[] INTS = {
        Integer.MIN_VALUE, -1, 0, 1, 2, 47, 48, 119, 120, 121, 255, 2047, 2048, 65536, Integer.MAX_VALUE
    };
    private static final long[] LONGS = {Long.MIN_VALUE, -1, 0, 1, 2, 1L << 62, Long.MAX_VALUE};
    private static int calls = 0;

    public static void main(String[] args) {
        Due due = new Due("never throws");
        for (int bytes : INTS) {
            SampleTracker x = new SampleTracker(bytes);
            for (int cut : INTS) {
                all(x);
                x.recover();
                x.cut(cut);
                all(x);
                x.compact();
            }
        }
        wornOut();
        due.holds("all calls came back", calls > 100000);
        due.end();
    }

    private static void all(SampleTracker x) {
        for (int a : INTS) {
            for (int b : INTS) {
                x.octet(a, b);
                x.sample(a, b);
                x.total(a, b);
                x.move(a, b);
                calls += 4;
            }
            for (long v : LONGS) {
                x.register(a, v);
                x.aliquot(a, 47 - (a & 7), v);
                x.aliquot(1, a, v);
                calls += 3;
            }
            x.volume(a);
            x.well(a);
            x.count(a);
            x.discard(a);
            x.undo();
            calls += 5;
        }
    }

    /** As many SAMPLES as the bytes allow, far beyond 512 calls. */
    private static void wornOut() {
        SampleTracker x = new SampleTracker(2048);
        for (int i = 0; i < 5000; i++) {
            x.register(i % 48, 1);
            x.discard(i % 120);
            if (i % 7 == 0) {
                x.undo();
            }
            if (x.register(0, 1) == -6) {
                x.compact();
            }
            x.sample(i % 121, 4);
            x.total(3, i % 121);
            x.recover();
            calls += 7;
        }
    }
}
