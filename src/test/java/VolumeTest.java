/** Promise 12: volume. */
public final class VolumeTest {
    private static final Due DUE = new Due("promise 12");
    private static final long MAX = Long.MAX_VALUE;

    public static void main(String[] args) {
        volumes();
        edges();
        without();
        down();
        DUE.end();
    }

    private static void volumes() {
        DUE.sentence("The VOLUME of a SAMPLE");
        for (Lab x : Family.everywhere()) {
            for (int s = 1; s <= 6; s++) {
                DUE.is("volume(" + s + ")", x.volume(s), Family.DUE[s - 1][5]);
            }
        }
    }

    private static void edges() {
        DUE.sentence("a VOLUME (not below 0)");
        Lab x = new Lab(200);
        x.register(0, 1);
        DUE.is("the least of a REGISTER", x.volume(1), 1);
        x.register(1, MAX - 1);
        DUE.is("the greatest beside it", x.volume(2), MAX - 1);
        x.aliquot(2, 2, MAX - 1);
        DUE.is("0 and LIVE", x.volume(2), 0);
        DUE.is("all of it", x.volume(3), MAX - 1);
        x.discard(3);
        DUE.is("DISCARDED: 0", x.volume(3), 0);
        x.undo();
        DUE.is("undone", x.volume(3), MAX - 1);
        x.compact();
        x.recover();
        DUE.is("behind compact() and recover(): 0 and LIVE", x.volume(2), 0);
        DUE.is("behind compact() and recover()", x.volume(3), MAX - 1);
        long[] volumes = {127, 128, 255, 256, 65535, 65536, 0x7fffffffL, 0x80000000L, 0xffffffffL, 1L << 32, 1L << 62};
        for (long volume : volumes) {
            Lab one = new Lab(64);
            one.register(0, volume);
            one.recover();
            DUE.is("volume(1)", one.volume(1), volume);
            one.compact();
            one.recover();
            DUE.is("volume(1) behind compact()", one.volume(1), volume);
        }
    }

    private static void without() {
        DUE.sentence("NONE likewise (without it)");
        Lab empty = new Lab(64);
        Lab x = Family.begun();
        DUE.is("empty: volume(0)", empty.volume(0), -1);
        DUE.is("empty: volume(1)", empty.volume(1), -1);
        int[] samples = {0, -1, 7, 8, 120, 121, 257, 65537, Integer.MIN_VALUE, Integer.MIN_VALUE + 1,
            Integer.MAX_VALUE};
        for (int sample : samples) {
            DUE.is("volume(" + sample + ")", x.volume(sample), -1);
        }
        x.undo();
        x.undo();
        DUE.is("undone: volume(6)", x.volume(6), -1);
        DUE.is("the last one left", x.volume(5), 9);
    }

    private static void down() {
        DUE.sentence("NONE likewise (as long as the power is down)");
        Lab x = Family.begun();
        x.cut(0);
        DUE.is("a cut that waits hides nothing", x.volume(1), 40);
        x.undo();
        for (int s = 0; s < 8; s++) {
            DUE.is("down: volume(" + s + ")", x.volume(s), -1);
        }
        x.recover();
        DUE.is("up again: volume(5)", x.volume(5), 9);
    }
}
