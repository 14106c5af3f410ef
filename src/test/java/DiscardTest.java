/** Promise 5: discard. */
public final class DiscardTest {
    private static final Due DUE = new Due("promise 5");

    public static void main(String[] args) {
        ordinary();
        refused();
        DUE.end();
    }

    private static void ordinary() {
        SampleTracker x = new SampleTracker(200);
        x.register(3, 10);
        x.aliquot(1, 4, 3);
        DUE.is("discard(1)", x.discard(1), 0);
        Bytes.due(DUE, x, 0, Bytes.head(1), Bytes.register(3, 10), Bytes.aliquot(1, 4, 3), Bytes.discard(1));
        DUE.is("volume(1)", x.volume(1), 0);
        DUE.is("sample(1, 1)", x.sample(1, 1), -1);
        DUE.is("sample(1, 2)", x.sample(1, 2), 1);
        DUE.is("well(3)", x.well(3), -1);
        DUE.is("total(0, 0)", x.total(0, 0), 3);
        DUE.is("total(1, 0)", x.total(1, 0), 7);
        DUE.is("total(2, 0)", x.total(2, 0), 10);
        DUE.is("count(7)", x.count(7), 2);
        DUE.is("count(8)", x.count(8), 1);
        DUE.is("its child has it still", x.sample(2, 0), 1);
        DUE.is("its well is free", x.register(3, 2), 3);
        DUE.is("discard(3)", x.discard(3), 0);
        DUE.is("total(1, 0)", x.total(1, 0), 9);
        DUE.is("count(2)", x.count(2), 73);
        x.aliquot(2, 9, 3);
        DUE.is("one with VOLUME 0", x.discard(2), 0);
        DUE.is("total(1, 0)", x.total(1, 0), 9);
    }

    private static void refused() {
        SampleTracker x = new SampleTracker(64);
        x.register(0, 1);
        x.register(1, 1);
        DUE.is("discard(2)", x.discard(2), 0);
        int[] noSamples = {0, -1, 2, 3, 65537, Integer.MIN_VALUE, Integer.MAX_VALUE};
        for (int sample : noSamples) {
            DUE.is("discard(" + sample + ")", x.discard(sample), -2);
        }
        DUE.is("discard(1)", x.discard(1), 0);
        DUE.is("count(6)", x.count(6), 63);
        SampleTracker y = new SampleTracker(64);
        y.register(0, 1);
        y.aliquot(1, 1, 1);
        DUE.is("discard(2) into the last bytes but 9", y.discard(2), 0);
        DUE.is("9 bytes are no room for 10", y.discard(1), -6);
        DUE.is("no such sample is told ahead of no room", y.discard(2), -2);
        DUE.is("count(2)", y.count(2), 46);
        y.cut(0);
        y.undo();
        DUE.is("down", y.discard(99), -1);
    }
}
