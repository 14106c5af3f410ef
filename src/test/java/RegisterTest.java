/** Promise 2: register. */
public final class RegisterTest {
    private static final Due DUE = new Due("promise 2");

    public static void main(String[] args) {
        ordinary();
        refused();
        volumes();
        room();
        DUE.end();
    }

    private static void ordinary() {
        SampleTracker x = new SampleTracker(100);
        DUE.is("register(47, 7)", x.register(47, 7), 1);
        DUE.is("register(0, 0x0102030405060708)", x.register(0, 0x0102030405060708L), 2);
        Bytes.due(DUE, x, 0, Bytes.head(1), Bytes.register(47, 7), Bytes.register(0, 0x0102030405060708L));
        Bytes.due(DUE, x, 1);
        DUE.is("sample(2, 0)", x.sample(2, 0), 0);
        DUE.is("sample(2, 1)", x.sample(2, 1), 0);
        DUE.is("volume(2)", x.volume(2), 0x0102030405060708L);
        DUE.is("well(47)", x.well(47), 1);
        DUE.is("count(2)", x.count(2), 34);
        DUE.is("count(6)", x.count(6), 43);
        DUE.is("count(9)", x.count(9), 2);
    }

    private static void refused() {
        SampleTracker x = new SampleTracker(64);
        x.register(5, 1);
        int[] noWells = {-1, 48, 255, 256, Integer.MIN_VALUE, Integer.MAX_VALUE};
        for (int well : noWells) {
            DUE.is("register(" + well + ", 0)", x.register(well, 0), -2);
        }
        DUE.is("a taken well is told ahead of a wrong volume", x.register(5, 0), -3);
        DUE.is("register(6, 0)", x.register(6, 0), -4);
        DUE.is("register(6, -1)", x.register(6, -1), -4);
        DUE.is("register(6, MIN)", x.register(6, Long.MIN_VALUE), -4);
        DUE.is("register(6, 1)", x.register(6, 1), 2);
        DUE.is("register(7, 1)", x.register(7, 1), 3);
        DUE.is("count(6)", x.count(6), 60);
        DUE.is("no room", x.register(8, 1), -6);
        DUE.is("a wrong volume is told ahead of no room", x.register(8, 0), -4);
        DUE.is("a taken well is told ahead of no room", x.register(7, 1), -3);
        DUE.is("nothing was written", x.count(2), 51);
        x.cut(0);
        DUE.is("refused without a byte, the power stays", x.register(8, 1), -6);
        DUE.is("count(0)", x.count(0), 1);
        SampleTracker down = new SampleTracker(64);
        down.cut(0);
        DUE.is("register(0, 1)", down.register(0, 1), -1);
        DUE.is("down is told ahead of no such well", down.register(99, 0), -1);
        DUE.is("count(3)", down.count(3), 1);
    }

    private static void volumes() {
        SampleTracker x = new SampleTracker(200);
        DUE.is("register(0, MAX - 2)", x.register(0, Long.MAX_VALUE - 2), 1);
        DUE.is("register(1, 3)", x.register(1, 3), -4);
        DUE.is("register(1, MAX)", x.register(1, Long.MAX_VALUE), -4);
        DUE.is("register(1, 2)", x.register(1, 2), 2);
        DUE.is("total(2, 0)", x.total(2, 0), Long.MAX_VALUE);
        DUE.is("register(2, 1)", x.register(2, 1), -4);
        DUE.is("discard(2)", x.discard(2), 0);
        DUE.is("DISCARDED VOLUME counts", x.register(2, 1), -4);
        x.undo();
        x.undo();
        DUE.is("register(3, 1)", x.register(3, 1), 2);
        DUE.is("aliquot(1, 4, 9)", x.aliquot(1, 4, 9), 3);
        DUE.is("an aliquot adds nothing", x.register(5, 1), 4);
        DUE.is("register(6, 1)", x.register(6, 1), -4);
    }

    private static void room() {
        for (int bytes = 64; bytes < 100; bytes++) {
            SampleTracker x = new SampleTracker(bytes);
            int fitting = (bytes - 9) / 17;
            for (int i = 1; i <= fitting; i++) {
                DUE.is("bytes " + bytes + " register", x.register(i, 1), i);
            }
            DUE.is("bytes " + bytes + " register behind the last", x.register(0, 1), -6);
        }
    }
}
