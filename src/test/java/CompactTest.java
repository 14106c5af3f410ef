import java.util.List;

/** Promise 7: compact. */
public final class CompactTest {
    private static final Due DUE = new Due("promise 7");

    public static void main(String[] args) {
        ordinary();
        fullBanks();
        empty();
        refused();
        cutShort();
        DUE.end();
    }

    private static SampleTracker filled(int bytes) {
        SampleTracker x = new SampleTracker(bytes);
        x.register(0, 300);
        x.aliquot(1, 47, 100);
        x.register(2, 70000);
        x.discard(1);
        return x;
    }

    private static void ordinary() {
        SampleTracker x = filled(100);
        List<Integer> old = Look.bank(x, 0);
        DUE.is("compact()", x.compact(), 0);
        Bytes.due(DUE, x, 1, Bytes.head(2), Bytes.lost(200), Bytes.kept(0, 255, 0), Bytes.kept(1, 47, 100),
            Bytes.kept(0, 2, 70000));
        DUE.holds("the other bank stays", Look.bank(x, 0).equals(old));
        int[] counts = {1, 100, 63 + 100 + 73 + 9, 0, 1, 2, 82, 3, 2, 0};
        for (int what = 0; what < counts.length; what++) {
            DUE.is("count(" + what + ")", x.count(what), counts[what]);
        }
        List<Long> table = Look.table(x);
        DUE.is("recover()", x.recover(), 4);
        DUE.holds("the same table behind recover()", Look.table(x).equals(table));
        DUE.is("an ACT goes on in the other bank", x.register(9, 1), 4);
        DUE.is("octet(1, 83)", x.octet(1, 83), 17);
        DUE.is("compact() into bank 0 has no room", x.compact(), -6);
        DUE.is("undo is no room", x.undo(), -6);
    }

    private static void fullBanks() {
        SampleTracker x = filled(200);
        for (int i = 2; i < 9; i++) {
            x.compact();
            DUE.is("count(5)", x.count(5), i);
            DUE.is("count(4)", x.count(4), (i + 1) % 2);
            Bytes.due(DUE, x, (i + 1) % 2, Bytes.head(i), Bytes.lost(200), Bytes.kept(0, 255, 0),
                Bytes.kept(1, 47, 100), Bytes.kept(0, 2, 70000));
            DUE.is("what an old bank had is gone", x.octet((i + 1) % 2, 82 + 1), 0);
            DUE.is("move(2, i)", x.move(2, i + 10), 0);
            DUE.is("undo()", x.undo(), 0);
        }
    }

    private static void empty() {
        SampleTracker x = new SampleTracker(64);
        DUE.is("compact() of an empty table", x.compact(), 0);
        Bytes.due(DUE, x, 1, Bytes.head(2), Bytes.lost(0));
        Bytes.due(DUE, x, 0, Bytes.head(1));
        DUE.is("count(6)", x.count(6), 25);
        DUE.is("count(2)", x.count(2), 64 + 16 + 9);
        DUE.is("recover()", x.recover(), 1);
    }

    private static void refused() {
        for (int bytes = 64; bytes < 170; bytes++) {
            SampleTracker x = new SampleTracker(bytes);
            int samples = (bytes - 9) / 17;
            for (int i = 0; i < samples; i++) {
                x.register(i, 1);
            }
            boolean fits = 25 + 19 * samples <= bytes;
            int written = x.count(2);
            List<Long> all = Look.all(x);
            DUE.is("bytes " + bytes + " compact()", x.compact(), fits ? 0 : -6);
            if (!fits) {
                DUE.is("nothing is written", x.count(2), written);
                DUE.holds("nothing changes", Look.all(x).equals(all));
            }
        }
        DUE.is("three SAMPLES want 82 bytes", filled(82).compact(), 0);
        DUE.is("and 81 are too few", filled(81).compact(), -6);
        SampleTracker down = filled(80);
        DUE.is("compact()", down.compact(), -6);
        down.cut(0);
        DUE.is("undo()", down.undo(), -1);
        DUE.is("down is told ahead of no room", down.compact(), -1);
    }

    private static void cutShort() {
        int all = 150 + 73 + 9;
        for (int n = 0; n <= all + 1; n++) {
            SampleTracker x = filled(150);
            List<Long> before = Look.table(x);
            int written = x.count(2);
            x.cut(n);
            DUE.is("cut(" + n + ") compact()", x.compact(), n <= all ? -1 : 0);
            DUE.is("bytes written", x.count(2), written + Math.min(n, all));
            DUE.is("octet(1, 8)", x.octet(1, 8), n >= all ? 165 : 0);
            DUE.is("recover()", x.recover(), 4);
            DUE.is("count(4)", x.count(4), n >= all ? 1 : 0);
            DUE.is("count(9)", x.count(9), n >= all ? 0 : 4);
            SampleTracker whole = filled(150);
            if (n >= all) {
                whole.compact();
            }
            DUE.holds("the table behind cut " + n, Look.table(x).equals(n >= all ? Look.table(whole) : before));
        }
    }
}
