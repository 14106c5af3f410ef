/** Promise 3: aliquot. */
public final class AliquotTest {
    private static final Due DUE = new Due("promise 3");
    private static final long MAX = Long.MAX_VALUE;
    private static final int OWN = 0;
    private static final int TAKEN = 2;
    private static final int LEFT = 1;
    private static final int FREE = 9;

    public static void main(String[] args) {
        ordinary();
        samples();
        wells();
        takenWells();
        volumes();
        greatVolumes();
        room();
        leastRefusal();
        mostSamples();
        PowerCuts.ofRecord(DUE, AliquotTest::begun, x -> x.aliquot(1, 47, 0x0102030405060708L), 19);
        DUE.end();
    }

    private static Lab begun() {
        Lab x = new Lab(150);
        x.register(0, MAX);
        x.compact();
        x.aliquot(1, 1, 20);
        x.discard(2);
        return x;
    }

    private static void ordinary() {
        DUE.sentence("a new SAMPLE with that PARENT; the other one has so much less: the new one's number");
        Lab x = new Lab(200);
        x.register(3, 10);
        DUE.is("aliquot(1, 4, 4)", x.aliquot(1, 4, 4), 2);
        DUE.is("aliquot(2, 47, 3)", x.aliquot(2, 47, 3), 3);
        Bytes.due(DUE, x, 0, Bytes.head(1), Bytes.register(3, 10), Bytes.aliquot(1, 4, 4), Bytes.aliquot(2, 47, 3));
        Bytes.due(DUE, x, 1);
        DUE.is("volume(1)", x.volume(1), 6);
        DUE.is("volume(2)", x.volume(2), 1);
        DUE.is("volume(3)", x.volume(3), 3);
        DUE.is("sample(2, 0)", x.sample(2, 0), 1);
        DUE.is("sample(3, 0)", x.sample(3, 0), 2);
        DUE.is("well(47)", x.well(47), 3);
        DUE.is("count(8)", x.count(8), 3);
        DUE.is("total(2, 0)", x.total(2, 0), 10);
        DUE.is("count(2)", x.count(2), 55);
        DUE.sentence("(0, perhaps, LIVE all the same)");
        DUE.is("all that 2 has", x.aliquot(2, 0, 1), 4);
        DUE.is("volume(2)", x.volume(2), 0);
        DUE.is("well(4)", x.well(4), 2);
        DUE.is("sample(2, 1)", x.sample(2, 1), 4);
        DUE.is("count(8)", x.count(8), 4);
        DUE.is("it can be moved", x.move(2, 30), 0);
        DUE.is("it can be discarded", x.discard(2), 0);
    }

    private static void samples() {
        DUE.sentence("2 no such SAMPLE (LIVE)");
        Lab empty = new Lab(64);
        DUE.is("of an empty table: aliquot(0, 1, 1)", empty.aliquot(0, 1, 1), -2);
        DUE.is("of an empty table: aliquot(1, 1, 1)", empty.aliquot(1, 1, 1), -2);
        Lab x = new Lab(300);
        x.register(0, 10);
        x.register(1, 10);
        x.register(2, 10);
        x.discard(2);
        int[] none = {0, -1, -2, 2, 4, 5, 119, 120, 121, 257, 65537, Integer.MIN_VALUE, Integer.MIN_VALUE + 1,
            Integer.MAX_VALUE};
        for (int sample : none) {
            DUE.is("aliquot(" + sample + ", 9, 1)", x.aliquot(sample, 9, 1), -2);
        }
        DUE.is("the first", x.aliquot(1, 9, 1), 4);
        DUE.is("the last", x.aliquot(3, 10, 1), 5);
        DUE.is("the newest", x.aliquot(5, 11, 1), 6);
        x.undo();
        DUE.is("one that was undone", x.aliquot(6, 12, 1), -2);
        x.undo();
        x.undo();
        x.undo();
        DUE.is("one whose DISCARD was undone", x.aliquot(2, 12, 1), 4);
    }

    private static void wells() {
        DUE.sentence("WELLS 0 to 47; 2 no such WELL");
        int[] none = {-1, 48, 49, 127, 128, 255, 256, 257, 65536, Integer.MIN_VALUE, Integer.MAX_VALUE};
        Lab x = new Lab(100);
        x.register(20, 10);
        for (int well : none) {
            DUE.is("aliquot(1, " + well + ", 1)", x.aliquot(1, well, 1), -2);
        }
        DUE.is("aliquot(1, 0, 1)", x.aliquot(1, 0, 1), 2);
        DUE.is("aliquot(1, 47, 1)", x.aliquot(1, 47, 1), 3);
        DUE.is("well(0)", x.well(0), 2);
        DUE.is("well(47)", x.well(47), 3);
    }

    private static void takenWells() {
        DUE.sentence("3 a LIVE SAMPLE is in it");
        Lab x = new Lab(200);
        x.register(0, 10);
        x.register(47, 10);
        DUE.is("its own well", x.aliquot(1, 0, 1), -3);
        DUE.is("another's well", x.aliquot(1, 47, 1), -3);
        DUE.is("its own well, all of it", x.aliquot(1, 0, 10), -3);
        x.aliquot(2, 5, 10);
        DUE.is("the well of one with VOLUME 0", x.aliquot(1, 47, 1), -3);
        x.discard(2);
        DUE.is("the well of a DISCARDED one", x.aliquot(1, 47, 1), 4);
        DUE.is("and that of the new one", x.aliquot(1, 47, 1), -3);
    }

    private static void volumes() {
        DUE.sentence("4 VOLUME below 1, or above what the SAMPLE has");
        Lab x = new Lab(200);
        x.register(0, 10);
        long[] wrong = {0, -1, -10, Long.MIN_VALUE, Long.MIN_VALUE + 10, -1L << 32, 11, 12, (1L << 32) + 5, MAX};
        for (long volume : wrong) {
            DUE.is("aliquot(1, 1, " + volume + ")", x.aliquot(1, 1, volume), -4);
        }
        DUE.is("the least", x.aliquot(1, 1, 1), 2);
        DUE.is("10 are too many now", x.aliquot(1, 2, 10), -4);
        DUE.is("all", x.aliquot(1, 2, 9), 3);
        DUE.is("1 of 0", x.aliquot(1, 3, 1), -4);
        DUE.is("0 of 0", x.aliquot(1, 3, 0), -4);
        DUE.is("all of 1", x.aliquot(2, 3, 1), 4);
        x.undo();
        x.undo();
        DUE.is("what was undone can be had again", x.aliquot(1, 2, 9), 3);
    }

    private static void greatVolumes() {
        DUE.sentence("4 VOLUME above what the SAMPLE has");
        Lab x = new Lab(200);
        x.register(0, MAX);
        DUE.is("all of 2^63 - 1", x.aliquot(1, 1, MAX), 2);
        DUE.is("volume(1)", x.volume(1), 0);
        DUE.is("volume(2)", x.volume(2), MAX);
        DUE.is("all but 1", x.aliquot(2, 2, MAX - 1), 3);
        DUE.is("volume(2)", x.volume(2), 1);
        DUE.is("volume(3)", x.volume(3), MAX - 1);
        DUE.is("one too many", x.aliquot(3, 3, MAX), -4);
        DUE.is("all there is stays", x.total(2, 0), MAX);
        x.compact();
        x.recover();
        DUE.is("behind compact() and recover()", x.aliquot(3, 3, MAX), -4);
        DUE.is("behind compact() and recover()", x.aliquot(3, 3, MAX - 1), 4);
    }

    private static void room() {
        DUE.sentence("6 no room");
        for (int bytes = 64; bytes < 130; bytes++) {
            Lab x = new Lab(bytes);
            x.register(0, 100);
            int fitting = (bytes - 26) / 19;
            for (int i = 1; i <= fitting; i++) {
                DUE.is("bytes " + bytes + " aliquot", x.aliquot(1, i, 1), i + 1);
            }
            DUE.is("bytes " + bytes + " one more", x.aliquot(1, 40, 1), -6);
            DUE.is("count(6)", x.count(6), 26 + 19 * fitting);
            DUE.is("recover()", x.recover(), 1 + fitting);
        }
        DUE.is("19 bytes are room", Lab.withRoom(19, AliquotTest::threeSamples).aliquot(1, FREE, 1), 4);
        DUE.is("18 are none", Lab.withRoom(18, AliquotTest::threeSamples).aliquot(1, FREE, 1), -6);
    }

    /** 1 has VOLUME 10, 2 is DISCARDED. */
    private static void threeSamples(Lab x) {
        x.register(OWN, 10);
        x.register(LEFT, 5);
        x.register(TAKEN, 1);
        x.discard(2);
    }

    private static void leastRefusal() {
        DUE.sentence("the least of those that hold, and nothing is written");
        int[] samples = {0, 4, 2, 1};
        int[] wells = {-1, 48, OWN, TAKEN, LEFT, FREE};
        long[] volumes = {0, 11, 10, 1};
        int[] rooms = {8, 18, 19};
        for (int room : rooms) {
            for (int sample : samples) {
                for (int well : wells) {
                    for (long volume : volumes) {
                        boolean none = sample != 1 || well < 0 || well > 47;
                        boolean taken = well == OWN || well == TAKEN;
                        boolean wrong = volume < 1 || volume > 10;
                        int want = Due.least(false, none, taken, wrong, false, room < 19);
                        Refusals.due(DUE, () -> Lab.withRoom(room, AliquotTest::threeSamples),
                            "aliquot(" + sample + ", " + well + ", " + volume + ")",
                            x -> x.aliquot(sample, well, volume), want == 0 ? 4 : want);
                    }
                }
            }
        }
    }

    /** Refusal 5 is out of reach (OutOfReachTest): the bank is full long before there are 120. */
    private static void mostSamples() {
        DUE.sentence("SAMPLES 1, 2, ..: 120 at most");
        Lab x = Crowd.ofAliquots(false, 1000);
        DUE.is("count(7)", x.count(7), 106);
        DUE.is("sample(1, 2)", x.sample(1, 2), 105);
        DUE.is("volume(1)", x.volume(1), 1000 - 105);
        DUE.is("the last one's PARENT", x.sample(106, 0), 1);
        DUE.is("no room, not: there are 120", x.aliquot(1, 40, 1), -6);
        DUE.is("undo()", x.undo(), 0);
        DUE.is("count(7)", x.count(7), 105);
    }
}
