/** Promise 5: discard. */
public final class DiscardTest {
    private static final Due DUE = new Due("promise 5");
    private static final long MAX = Long.MAX_VALUE;

    public static void main(String[] args) {
        ordinary();
        discardedVolume();
        samples();
        room();
        leastRefusal();
        PowerCuts.ofRecord(DUE, DiscardTest::begun, x -> x.discard(2), 10);
        DUE.end();
    }

    private static Lab begun() {
        Lab x = new Lab(150);
        x.register(0, 10);
        x.aliquot(1, 1, 4);
        x.discard(1);
        x.compact();
        x.register(0, 7);
        x.move(2, 47);
        return x;
    }

    private static void ordinary() {
        DUE.sentence("DISCARDED (VOLUME 0, no WELL)");
        Lab x = new Lab(200);
        x.register(3, 10);
        x.aliquot(1, 4, 3);
        DUE.is("discard(1)", x.discard(1), 0);
        Bytes.due(DUE, x, 0, Bytes.head(1), Bytes.register(3, 10), Bytes.aliquot(1, 4, 3), Bytes.discard(1));
        Bytes.due(DUE, x, 1);
        DUE.is("volume(1)", x.volume(1), 0);
        DUE.is("sample(1, 1)", x.sample(1, 1), -1);
        DUE.is("sample(1, 2)", x.sample(1, 2), 1);
        DUE.is("well(3)", x.well(3), -1);
        DUE.is("count(7)", x.count(7), 2);
        DUE.is("count(8)", x.count(8), 1);
        DUE.is("its child has it still", x.sample(2, 0), 1);
        DUE.is("its well is free", x.register(3, 2), 3);
        DUE.is("discard(3)", x.discard(3), 0);
        DUE.is("count(2)", x.count(2), 73);
    }

    private static void discardedVolume() {
        DUE.sentence("DISCARDED VOLUME is counted");
        Lab x = new Lab(200);
        x.register(3, 10);
        x.aliquot(1, 4, 3);
        DUE.is("none at first", x.total(1, 0), 0);
        x.discard(1);
        DUE.is("total(0, 0)", x.total(0, 0), 3);
        DUE.is("total(1, 0)", x.total(1, 0), 7);
        DUE.is("total(2, 0)", x.total(2, 0), 10);
        x.aliquot(2, 9, 3);
        DUE.is("one with VOLUME 0", x.discard(2), 0);
        DUE.is("adds none", x.total(1, 0), 7);
        DUE.is("the last LIVE one", x.discard(3), 0);
        DUE.is("count(8)", x.count(8), 0);
        DUE.is("total(0, 0)", x.total(0, 0), 0);
        DUE.is("total(1, 0)", x.total(1, 0), 10);
        Lab great = new Lab(200);
        great.register(0, MAX - 1);
        great.register(1, 1);
        great.discard(1);
        DUE.is("MAX - 1", great.total(1, 0), MAX - 1);
        DUE.is("discard(2)", great.discard(2), 0);
        DUE.is("2^63 - 1, the greatest", great.total(1, 0), MAX);
        great.compact();
        DUE.is("behind compact()", great.total(1, 0), MAX);
        great.recover();
        DUE.is("behind recover()", great.total(1, 0), MAX);
    }

    private static void samples() {
        DUE.sentence("2 no such SAMPLE (LIVE)");
        Lab empty = new Lab(64);
        DUE.is("of an empty table: discard(0)", empty.discard(0), -2);
        DUE.is("of an empty table: discard(1)", empty.discard(1), -2);
        Lab x = new Lab(300);
        x.register(0, 1);
        x.register(1, 1);
        x.register(2, 1);
        x.discard(2);
        int[] none = {0, -1, 2, 4, 120, 121, 257, 65537, Integer.MIN_VALUE, Integer.MIN_VALUE + 1, Integer.MAX_VALUE};
        for (int sample : none) {
            DUE.is("discard(" + sample + ")", x.discard(sample), -2);
        }
        DUE.is("the last", x.discard(3), 0);
        DUE.is("the first", x.discard(1), 0);
        DUE.is("a second time", x.discard(1), -2);
        x.undo();
        DUE.is("behind undo()", x.discard(1), 0);
        x.compact();
        DUE.is("a second time, behind compact()", x.discard(1), -2);
        x.recover();
        DUE.is("a second time, behind recover()", x.discard(1), -2);
    }

    private static void room() {
        DUE.sentence("6 no room");
        Lab full = Lab.withRoom(10, DiscardTest::threeSamples);
        DUE.is("10 bytes are room", full.discard(1), 0);
        DUE.is("the bank is full", full.count(6), full.count(1));
        DUE.is("0 bytes are none", full.discard(3), -6);
        DUE.is("recover()", full.recover(), 5);
        DUE.is("well(0)", full.well(0), -1);
        DUE.is("9 bytes are none", Lab.withRoom(9, DiscardTest::threeSamples).discard(1), -6);
    }

    private static void threeSamples(Lab x) {
        x.register(0, 1);
        x.register(1, 1);
        x.register(2, 1);
        x.discard(2);
    }

    private static void leastRefusal() {
        DUE.sentence("the least of those that hold, and nothing is written");
        int[] samples = {0, 4, 2, 1};
        int[] rooms = {8, 9, 10};
        for (int room : rooms) {
            for (int sample : samples) {
                int want = Due.least(false, sample != 1, false, false, false, room < 10);
                Refusals.due(DUE, () -> Lab.withRoom(room, DiscardTest::threeSamples),
                    "discard(" + sample + ")", x -> x.discard(sample), want);
            }
        }
    }
}
