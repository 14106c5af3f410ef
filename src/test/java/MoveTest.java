/** Promise 4: move. */
public final class MoveTest {
    private static final Due DUE = new Due("promise 4");

    public static void main(String[] args) {
        ordinary();
        refused();
        DUE.end();
    }

    private static void ordinary() {
        SampleTracker x = new SampleTracker(100);
        x.register(3, 10);
        DUE.is("move(1, 47)", x.move(1, 47), 0);
        DUE.is("move(1, 0)", x.move(1, 0), 0);
        DUE.is("and back", x.move(1, 3), 0);
        Bytes.due(DUE, x, 0, Bytes.head(1), Bytes.register(3, 10), Bytes.move(1, 47), Bytes.move(1, 0),
            Bytes.move(1, 3));
        DUE.is("well(3)", x.well(3), 1);
        DUE.is("well(47)", x.well(47), -1);
        DUE.is("well(0)", x.well(0), -1);
        DUE.is("volume(1)", x.volume(1), 10);
        DUE.is("count(9)", x.count(9), 4);
        DUE.is("count(2)", x.count(2), 50);
    }

    private static void refused() {
        SampleTracker x = new SampleTracker(64);
        x.register(0, 1);
        x.register(1, 1);
        x.discard(2);
        int[] noSamples = {0, -1, 2, 3, Integer.MIN_VALUE, Integer.MAX_VALUE};
        for (int sample : noSamples) {
            DUE.is("move(" + sample + ", 0)", x.move(sample, 0), -2);
        }
        int[] noWells = {-1, 48, 255, Integer.MIN_VALUE, Integer.MAX_VALUE};
        for (int well : noWells) {
            DUE.is("move(1, " + well + ")", x.move(1, well), -2);
        }
        DUE.is("to the well it is in", x.move(1, 0), -3);
        DUE.is("move(1, 1)", x.move(1, 1), 0);
        DUE.is("count(6)", x.count(6), 64);
        DUE.is("no room", x.move(1, 2), -6);
        DUE.is("a taken well is told ahead of no room", x.move(1, 1), -3);
        DUE.is("no such sample is told ahead of no room", x.move(2, 2), -2);
        DUE.is("count(2)", x.count(2), 55);
        SampleTracker y = new SampleTracker(64);
        y.register(0, 1);
        y.register(1, 1);
        DUE.is("to another's well", y.move(1, 1), -3);
        DUE.is("move(2, 5)", y.move(2, 5), 0);
        DUE.is("10 bytes are no room for 11", y.move(2, 6), -6);
        y.cut(0);
        y.discard(1);
        DUE.is("down", y.move(7, 99), -1);
    }
}
