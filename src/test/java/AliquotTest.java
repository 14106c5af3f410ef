/** Promise 3: aliquot. */
public final class AliquotTest {
    private static final Due DUE = new Due("promise 3");

    public static void main(String[] args) {
        ordinary();
        refused();
        room();
        DUE.end();
    }

    private static void ordinary() {
        SampleTracker x = new SampleTracker(200);
        x.register(3, 10);
        DUE.is("aliquot(1, 4, 4)", x.aliquot(1, 4, 4), 2);
        DUE.is("aliquot(2, 47, 4)", x.aliquot(2, 47, 4), 3);
        Bytes.due(DUE, x, 0, Bytes.head(1), Bytes.register(3, 10), Bytes.aliquot(1, 4, 4), Bytes.aliquot(2, 47, 4));
        DUE.is("volume(1)", x.volume(1), 6);
        DUE.is("volume(2)", x.volume(2), 0);
        DUE.is("volume(3)", x.volume(3), 4);
        DUE.is("a SAMPLE with VOLUME 0 is LIVE", x.well(4), 2);
        DUE.is("sample(3, 0)", x.sample(3, 0), 2);
        DUE.is("count(8)", x.count(8), 3);
        DUE.is("total(2, 0)", x.total(2, 0), 10);
        DUE.is("count(2)", x.count(2), 55);
    }

    private static void refused() {
        SampleTracker x = new SampleTracker(82);
        x.register(0, 10);
        x.register(1, 10);
        x.discard(2);
        int[] noSamples = {0, -1, 2, 3, 121, 65537, Integer.MIN_VALUE, Integer.MAX_VALUE};
        for (int sample : noSamples) {
            DUE.is("aliquot(" + sample + ", 0, 0)", x.aliquot(sample, 0, 0), -2);
        }
        int[] noWells = {-1, 48, 256, Integer.MIN_VALUE, Integer.MAX_VALUE};
        for (int well : noWells) {
            DUE.is("aliquot(1, " + well + ", 0)", x.aliquot(1, well, 0), -2);
        }
        DUE.is("into its own well, wrong volume too", x.aliquot(1, 0, 0), -3);
        DUE.is("aliquot(1, 1, 0)", x.aliquot(1, 1, 0), -4);
        DUE.is("aliquot(1, 1, -5)", x.aliquot(1, 1, -5), -4);
        DUE.is("aliquot(1, 1, MIN)", x.aliquot(1, 1, Long.MIN_VALUE), -4);
        DUE.is("aliquot(1, 1, 11)", x.aliquot(1, 1, 11), -4);
        DUE.is("aliquot(1, 1, MAX)", x.aliquot(1, 1, Long.MAX_VALUE), -4);
        DUE.is("the well of a DISCARDED one is free", x.aliquot(1, 1, 10), 3);
        DUE.is("the PARENT has none left", x.aliquot(1, 2, 1), -4);
        DUE.is("no room", x.aliquot(3, 2, 1), -6);
        DUE.is("no such sample is told ahead of no room", x.aliquot(2, 2, 1), -2);
        DUE.is("count(2)", x.count(2), 63);
        x.cut(0);
        x.undo();
        DUE.is("down", x.aliquot(99, 99, 0), -1);
    }

    private static void room() {
        for (int bytes = 64; bytes < 110; bytes++) {
            SampleTracker x = new SampleTracker(bytes);
            x.register(0, 100);
            int fitting = (bytes - 26) / 19;
            for (int i = 1; i <= fitting; i++) {
                DUE.is("bytes " + bytes + " aliquot", x.aliquot(1, i, 1), i + 1);
            }
            DUE.is("bytes " + bytes + " aliquot behind the last", x.aliquot(1, 40, 1), -6);
        }
    }
}
