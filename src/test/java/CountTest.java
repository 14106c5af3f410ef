/** Promise 15: count. */
public final class CountTest {
    private static final Due DUE = new Due("promise 15");

    public static void main(String[] args) {
        counts();
        full();
        bytesWritten();
        failures();
        nobodyLive();
        DUE.end();
    }

    private static void counts() {
        DUE.sentence("What 0: 1 if the power is up, 0 down (told always, as are 1 to 3)");
        Lab x = new Lab(333);
        counts(x, "new", 1, 333, 0, 0, 0, 1, 9, 0, 0, 0);
        x.register(0, 9);
        x.aliquot(1, 1, 4);
        counts(x, "two", 1, 333, 36, 0, 0, 1, 45, 2, 2, 2);
        x.discard(1);
        counts(x, "discarded", 1, 333, 46, 0, 0, 1, 55, 2, 1, 3);
        x.undo();
        counts(x, "undone", 1, 333, 54, 0, 0, 1, 63, 2, 2, 2);
        x.undo();
        counts(x, "undone", 1, 333, 62, 0, 0, 1, 71, 1, 1, 1);
        x.move(1, 7);
        counts(x, "moved", 1, 333, 73, 0, 0, 1, 82, 1, 1, 2);
        x.register(99, 1);
        x.register(0, 0);
        counts(x, "refused", 1, 333, 73, 0, 0, 1, 82, 1, 1, 2);
        x.cut(4);
        counts(x, "a cut waits", 1, 333, 73, 0, 0, 1, 82, 1, 1, 2);
        x.discard(1);
        counts(x, "down", 0, 333, 77, 1, -1, -1, -1, -1, -1, -1);
        x.discard(1);
        counts(x, "refused", 0, 333, 77, 1, -1, -1, -1, -1, -1, -1);
        x.recover();
        counts(x, "up", 1, 333, 77, 1, 0, 1, 82, 1, 1, 2);
        x.compact();
        counts(x, "anew", 1, 333, 77 + 333 + 35 + 9, 1, 1, 2, 44, 1, 1, 0);
        x.cut(0);
        x.undo();
        x.discard(1);
        counts(x, "down", 0, 333, 454, 2, -1, -1, -1, -1, -1, -1);
        x.recover();
        x.recover();
        counts(x, "up", 1, 333, 454, 2, 1, 2, 44, 1, 1, 0);
    }

    /** And for another what, up or down, NONE: promise 11 says it of itself and of all that follow. */
    private static void counts(Lab x, String when, int... want) {
        for (int what = 0; what < want.length; what++) {
            DUE.is(when + ": count(" + what + ")", x.count(what), want[what]);
        }
        int[] others = {-1, 10, 11, 256, Integer.MIN_VALUE, Integer.MAX_VALUE};
        for (int what : others) {
            DUE.is(when + ": count(" + what + ")", x.count(what), -1);
        }
    }

    private static void full() {
        DUE.sentence("6: the byte behind its last RECORD");
        Lab x = new Lab(64);
        counts(x, "empty", 1, 64, 0, 0, 0, 1, 9, 0, 0, 0);
        x.register(0, 5);
        x.aliquot(1, 1, 2);
        x.move(2, 5);
        counts(x, "8 bytes left", 1, 64, 47, 0, 0, 1, 56, 2, 2, 3);
        x.undo();
        counts(x, "full", 1, 64, 55, 0, 0, 1, 64, 2, 2, 2);
        x.recover();
        counts(x, "full, behind recover()", 1, 64, 55, 0, 0, 1, 64, 2, 2, 2);
        x.compact();
        counts(x, "a byte left", 1, 64, 55 + 64 + 54 + 9, 0, 1, 2, 63, 2, 2, 0);
    }

    private static void bytesWritten() {
        DUE.sentence("2: bytes written, all in all (those that count)");
        Lab x = new Lab(2048);
        for (int i = 1; i <= 100; i++) {
            x.compact();
            DUE.is("count(2)", x.count(2), i * (2048 + 16 + 9));
        }
        x.recover();
        DUE.is("recover() counts none", x.count(2), 100 * 2073);
        x.cut(1);
        x.register(0, 1);
        DUE.is("a byte of a RECORD that is not whole counts", x.count(2), 100 * 2073 + 1);
        x.recover();
        DUE.is("that it is 0 again does not", x.count(2), 100 * 2073 + 1);
    }

    private static void failures() {
        DUE.sentence("3: times the power failed");
        Lab x = new Lab(64);
        for (int i = 1; i <= 130; i++) {
            x.cut(i % 3);
            DUE.is("a cut that waits", x.count(3), i - 1);
            x.register(0, 1);
            DUE.is("count(3)", x.count(3), i);
            x.recover();
            DUE.is("count(3) behind recover()", x.count(3), i);
        }
        Lab never = new Lab(64);
        never.cut(0);
        never.cut(-1);
        never.recover();
        DUE.is("a cut that never came", never.count(3), 0);
    }

    private static void nobodyLive() {
        DUE.sentence("7: SAMPLES, 8: LIVE ones, 9: ACTS that can be undone");
        Lab x = new Lab(200);
        x.register(0, 1);
        x.register(1, 1);
        x.discard(1);
        x.discard(2);
        DUE.is("count(7)", x.count(7), 2);
        DUE.is("count(8)", x.count(8), 0);
        DUE.is("count(9)", x.count(9), 4);
        x.compact();
        DUE.is("behind compact(): count(7)", x.count(7), 2);
        DUE.is("behind compact(): count(8)", x.count(8), 0);
        DUE.is("behind compact(): count(9)", x.count(9), 0);
        Lab most = new Lab(2048);
        for (int i = 0; i < 48; i++) {
            most.register(i, 1);
        }
        DUE.is("all WELLS taken: count(8)", most.count(8), 48);
    }
}
