import java.util.List;

/** Promise 7: compact. */
public final class CompactTest {
    private static final Due DUE = new Due("promise 7");
    private static final long MAX = Long.MAX_VALUE;

    public static void main(String[] args) {
        ordinary();
        kept();
        overAndOver();
        empty();
        room();
        leastAndGreatestBank();
        leastRefusal();
        generations();
        cutShort();
        cutOverManyBytes();
        DUE.end();
    }

    private static void threeSamples(Lab x) {
        x.register(0, 300);
        x.aliquot(1, 47, 100);
        x.register(2, 70000);
        x.discard(1);
    }

    private static Lab filled(int bytes) {
        Lab x = new Lab(bytes);
        threeSamples(x);
        return x;
    }

    private static void ordinary() {
        DUE.sentence("LOST, then KEPT of each SAMPLE by numbers; then the HEAD, with GENERATION one more");
        Lab x = filled(100);
        List<Integer> old = Look.bank(x, 0);
        DUE.is("compact()", x.compact(), 0);
        Bytes.due(DUE, x, 1, Bytes.head(2), Bytes.lost(200), Bytes.kept(0, 255, 0), Bytes.kept(1, 47, 100),
            Bytes.kept(0, 2, 70000));
        DUE.holds("the other bank stays", Look.bank(x, 0).equals(old));
        int[] counts = {1, 100, 63 + 100 + 73 + 9, 0, 1, 2, 82, 3, 2, 0};
        for (int what = 0; what < counts.length; what++) {
            DUE.is("count(" + what + ")", x.count(what), counts[what]);
        }
        List<Long> table = Look.table(x);
        DUE.is("recover()", x.recover(), 4);
        DUE.holds("the same table behind recover()", Look.table(x).equals(table));
        DUE.is("an ACT goes on in the other bank", x.register(9, 1), 4);
        DUE.is("octet(1, 83)", x.octet(1, 83), 17);
        DUE.is("compact() into bank 0 has no room", x.compact(), -6);
        DUE.is("undo is no room", x.undo(), -6);
    }

    private static void kept() {
        DUE.sentence("KEPT: PARENT (2), WELL (1; 255 DISCARDED), VOLUME (8); LOST: DISCARDED VOLUME (8)");
        Lab x = new Lab(200);
        x.register(47, MAX);
        x.aliquot(1, 0, MAX);
        x.compact();
        Bytes.due(DUE, x, 1, Bytes.head(2), Bytes.lost(0), Bytes.kept(0, 47, 0), Bytes.kept(1, 0, MAX));
        x.recover();
        DUE.is("VOLUME 0 and LIVE all the same", x.well(47), 1);
        DUE.is("volume(2)", x.volume(2), MAX);
        x.discard(2);
        x.discard(1);
        x.compact();
        Bytes.due(DUE, x, 0, Bytes.head(3), Bytes.lost(MAX), Bytes.kept(0, 255, 0), Bytes.kept(1, 255, 0));
        x.recover();
        DUE.is("count(7)", x.count(7), 2);
        DUE.is("none is LIVE", x.count(8), 0);
        DUE.is("sample(1, 1)", x.sample(1, 1), -1);
        DUE.is("total(1, 0)", x.total(1, 0), MAX);
        x.compact();
        DUE.is("twice on end", x.total(1, 0), MAX);
        Lab undone = new Lab(200);
        undone.register(0, 5);
        undone.register(1, 6);
        undone.undo();
        undone.compact();
        Bytes.due(DUE, undone, 1, Bytes.head(2), Bytes.lost(0), Bytes.kept(0, 0, 5));
    }

    private static void overAndOver() {
        DUE.sentence("0s on all of the other bank from byte 0 on");
        Lab x = filled(200);
        for (int i = 2; i < 9; i++) {
            DUE.is("compact()", x.compact(), 0);
            DUE.is("count(5)", x.count(5), i);
            DUE.is("count(4)", x.count(4), (i + 1) % 2);
            Bytes.due(DUE, x, (i + 1) % 2, Bytes.head(i), Bytes.lost(200), Bytes.kept(0, 255, 0),
                Bytes.kept(1, 47, 100), Bytes.kept(0, 2, 70000));
            DUE.is("move(2, i)", x.move(2, i + 10), 0);
            DUE.is("undo()", x.undo(), 0);
        }
        Lab full = new Lab(65);
        full.register(0, 5);
        full.aliquot(1, 1, 5);
        full.discard(1);
        full.discard(2);
        DUE.is("count(6)", full.count(6), 65);
        full.compact();
        full.compact();
        DUE.is("a full bank's last byte", full.octet(0, 64), 0);
        Bytes.due(DUE, full, 0, Bytes.head(3), Bytes.lost(5), Bytes.kept(0, 255, 0), Bytes.kept(1, 255, 0));
    }

    private static void empty() {
        DUE.sentence("COMPACT: 0 (of an empty table)");
        int[] sizes = {64, 2048};
        for (int bytes : sizes) {
            Lab x = new Lab(bytes);
            DUE.is("compact()", x.compact(), 0);
            Bytes.due(DUE, x, 1, Bytes.head(2), Bytes.lost(0));
            Bytes.due(DUE, x, 0, Bytes.head(1));
            DUE.is("count(6)", x.count(6), 25);
            DUE.is("count(2)", x.count(2), bytes + 16 + 9);
            DUE.is("recover()", x.recover(), 1);
            DUE.is("count(7)", x.count(7), 0);
            DUE.is("the first SAMPLE is 1", x.register(0, 1), 1);
        }
    }

    private static void room() {
        DUE.sentence("6 the other bank has no room for all");
        for (int bytes = 64; bytes < 170; bytes++) {
            Lab x = new Lab(bytes);
            int samples = (bytes - 9) / 17;
            for (int i = 0; i < samples; i++) {
                x.register(i, 1);
            }
            boolean fits = 25 + 19 * samples <= bytes;
            List<Long> all = Look.all(x);
            DUE.is("bytes " + bytes + " compact()", x.compact(), fits ? 0 : -6);
            if (!fits) {
                DUE.holds("nothing changes", Look.all(x).equals(all));
            }
        }
        Lab whole = filled(82);
        DUE.is("three SAMPLES want 82 bytes", whole.compact(), 0);
        DUE.is("count(6)", whole.count(6), 82);
        DUE.is("the last byte", whole.octet(1, 81), 165);
        DUE.is("recover()", whole.recover(), 4);
        DUE.is("count(7)", whole.count(7), 3);
        DUE.is("compact() into bank 0", whole.compact(), 0);
        DUE.is("and 81 are too few", filled(81).compact(), -6);
    }

    private static void leastAndGreatestBank() {
        DUE.sentence("6 the other bank has no room for all");
        Lab least = new Lab(64);
        least.register(0, 1);
        least.register(1, 1);
        DUE.is("2 SAMPLES in 64 bytes", least.compact(), 0);
        DUE.is("count(6)", least.count(6), 63);
        Lab three = new Lab(64);
        three.register(0, 1);
        three.register(1, 1);
        three.register(2, 1);
        DUE.is("3 SAMPLES in 64 bytes", three.compact(), -6);
        Lab greatest = new Lab(2048);
        Crowd.registered(greatest, 63);
        for (int i = 0; i < 43; i++) {
            greatest.register(i, 1);
        }
        DUE.is("106 SAMPLES in 2048 bytes", greatest.compact(), 0);
        DUE.is("count(6)", greatest.count(6), 2039);
        DUE.is("recover()", greatest.recover(), 107);
        DUE.is("well(42)", greatest.well(42), 106);
        DUE.is("9 bytes are left", greatest.discard(106), -6);
        Lab beyond = new Lab(2048);
        Crowd.registered(beyond, 63);
        for (int i = 0; i < 44; i++) {
            beyond.register(i, 1);
        }
        DUE.is("107 SAMPLES in 2048 bytes", beyond.compact(), -6);
        DUE.is("undo()", beyond.undo(), 43);
        DUE.is("106 again", beyond.compact(), 0);
    }

    private static void leastRefusal() {
        DUE.sentence("the least of those that hold, and nothing is written");
        int[] sizes = {80, 81, 82, 83};
        for (int bytes : sizes) {
            Refusals.due(DUE, () -> filled(bytes), "compact()", Lab::compact, bytes < 82 ? -6 : 0);
            Lab waits = filled(bytes);
            waits.cut(0);
            DUE.is("cut(0), " + bytes + " bytes", waits.compact(), bytes < 82 ? -6 : -1);
            DUE.is("count(0)", waits.count(0), bytes < 82 ? 1 : 0);
        }
    }

    /** GENERATION has 4 bytes: 512 calls reach its second one only (OutOfReachTest). */
    private static void generations() {
        DUE.sentence("GENERATION (4 bytes); numbers of several bytes: the highest first; GENERATION one more");
        Lab x = new Lab(64);
        x.register(5, 77);
        for (int generation = 2; generation <= 300; generation++) {
            DUE.is("compact()", x.compact(), 0);
            DUE.is("count(5)", x.count(5), generation);
            DUE.is("count(4)", x.count(4), (generation + 1) % 2);
            if (generation % 128 < 3 || generation % 128 > 125) {
                Bytes.due(DUE, x, x.count(4), Bytes.head(generation), Bytes.lost(0), Bytes.kept(0, 5, 77));
                Bytes.due(DUE, x, 1 - x.count(4), Bytes.head(generation - 1), generation == 2
                    ? Bytes.register(5, 77) : Bytes.joined(35, Bytes.lost(0), Bytes.kept(0, 5, 77)));
                DUE.is("recover()", x.recover(), 2);
                DUE.is("count(5) behind recover()", x.count(5), generation);
                DUE.is("count(4) behind recover()", x.count(4), (generation + 1) % 2);
                x.cut(64 + 35 + 8);
                DUE.is("compact() less its last byte", x.compact(), -1);
                x.recover();
                DUE.is("count(5) behind a HEAD that is not right", x.count(5), generation);
            }
        }
    }

    /** The other bank is no longer all 0, so each byte that COMPACT writes there can be told from what was there. */
    private static Lab again(int bytes) {
        Lab x = filled(bytes);
        x.compact();
        x.register(40, 7);
        x.move(4, 41);
        return x;
    }

    private static void cutShort() {
        DUE.sentence("each byte counts, in the order told");
        int bytes = 120;
        byte[] records = Bytes.joined(92, Bytes.lost(200), Bytes.kept(0, 255, 0), Bytes.kept(1, 47, 100),
            Bytes.kept(0, 2, 70000), Bytes.kept(0, 41, 7));
        byte[] head = Bytes.head(3);
        byte[] other = Bytes.joined(bytes, Bytes.head(1), Bytes.register(0, 300), Bytes.aliquot(1, 47, 100),
            Bytes.register(2, 70000), Bytes.discard(1));
        int all = bytes + records.length + head.length;
        for (int n = 0; n <= all + 1; n++) {
            cutShort(again(bytes), n, all, other);
            if (n < bytes) {
                other[n] = 0;
            } else if (n < bytes + records.length) {
                other[9 + n - bytes] = records[n - bytes];
            } else if (n < all) {
                other[n - bytes - records.length] = head[n - bytes - records.length];
            }
        }
    }

    private static void cutShort(Lab x, int n, int all, byte[] other) {
        List<Long> before = Look.table(x);
        List<Integer> inUse = Look.bank(x, 1);
        int written = x.count(2);
        String when = "cut(" + n + ") ";
        boolean done = n >= all;
        DUE.is(when, x.cut(n), 1);
        DUE.is(when + "compact()", x.compact(), n <= all ? -1 : 0);
        DUE.is(when + "count(0)", x.count(0), n <= all ? 0 : 1);
        DUE.is(when + "count(2)", x.count(2), written + Math.min(n, all));
        DUE.is(when + "count(3)", x.count(3), n <= all ? 1 : 0);
        Bytes.due(DUE, x, 0, other);
        DUE.holds(when + "the bank in use stays", Look.bank(x, 1).equals(inUse));
        DUE.is(when + "recover()", x.recover(), done ? 5 : 6);
        DUE.is(when + "count(4)", x.count(4), done ? 0 : 1);
        DUE.is(when + "count(5)", x.count(5), done ? 3 : 2);
        DUE.is(when + "count(6)", x.count(6), done ? 101 : 110);
        DUE.is(when + "count(9)", x.count(9), done ? 0 : 2);
        Bytes.due(DUE, x, 0, other);
        DUE.holds(when + "recover() leaves the other bank", Look.bank(x, 1).equals(inUse));
        List<Long> table = Look.table(x);
        int acts = before.size() - 1;
        DUE.holds(when + "the table", table.subList(0, acts).equals(before.subList(0, acts)));
        DUE.is(when + "compact() anew", x.compact(), 0);
        DUE.is(when + "count(5)", x.count(5), done ? 4 : 3);
        DUE.is(when + "count(4)", x.count(4), done ? 1 : 0);
    }

    private static void cutOverManyBytes() {
        DUE.sentence("behind n bytes more that are written (each byte counts)");
        Lab x = new Lab(2048);
        x.cut(2048 + 16 + 9 + 17);
        DUE.is("compact()", x.compact(), 0);
        DUE.is("register(0, 1) on its last byte", x.register(0, 1), -1);
        DUE.is("recover()", x.recover(), 2);
        DUE.is("count(2)", x.count(2), 2048 + 16 + 9 + 17);
    }
}
