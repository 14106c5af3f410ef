/** Promise 4: move. */
public final class MoveTest {
    private static final Due DUE = new Due("promise 4");

    public static void main(String[] args) {
        ordinary();
        samples();
        wells();
        takenWells();
        room();
        leastRefusal();
        PowerCuts.ofRecord(DUE, MoveTest::begun, x -> x.move(2, 47), 11);
        DUE.end();
    }

    private static Lab begun() {
        Lab x = new Lab(150);
        x.register(0, 10);
        x.aliquot(1, 1, 10);
        x.compact();
        x.move(1, 5);
        x.move(2, 0);
        return x;
    }

    private static void ordinary() {
        DUE.sentence("MOVE a SAMPLE to another WELL: 0");
        Lab x = new Lab(100);
        x.register(3, 10);
        DUE.is("move(1, 47)", x.move(1, 47), 0);
        DUE.is("move(1, 0)", x.move(1, 0), 0);
        DUE.is("and back", x.move(1, 3), 0);
        Bytes.due(DUE, x, 0, Bytes.head(1), Bytes.register(3, 10), Bytes.move(1, 47), Bytes.move(1, 0),
            Bytes.move(1, 3));
        Bytes.due(DUE, x, 1);
        DUE.is("well(3)", x.well(3), 1);
        DUE.is("sample(1, 1)", x.sample(1, 1), 3);
        DUE.is("well(47)", x.well(47), -1);
        DUE.is("well(0)", x.well(0), -1);
        DUE.is("volume(1)", x.volume(1), 10);
        DUE.is("count(7)", x.count(7), 1);
        DUE.is("count(9)", x.count(9), 4);
        DUE.is("count(2)", x.count(2), 50);
    }

    private static void samples() {
        DUE.sentence("2 no such SAMPLE (LIVE)");
        Lab empty = new Lab(64);
        DUE.is("of an empty table: move(0, 1)", empty.move(0, 1), -2);
        DUE.is("of an empty table: move(1, 1)", empty.move(1, 1), -2);
        Lab x = new Lab(300);
        x.register(0, 1);
        x.register(1, 1);
        x.register(2, 1);
        x.discard(2);
        int[] none = {0, -1, 2, 4, 120, 121, 257, 65537, Integer.MIN_VALUE, Integer.MIN_VALUE + 1, Integer.MAX_VALUE};
        for (int sample : none) {
            DUE.is("move(" + sample + ", 9)", x.move(sample, 9), -2);
        }
        DUE.is("the first", x.move(1, 9), 0);
        DUE.is("the last", x.move(3, 10), 0);
        x.aliquot(3, 11, 1);
        DUE.is("one with VOLUME 0", x.move(3, 12), 0);
    }

    private static void wells() {
        DUE.sentence("WELLS 0 to 47; 2 no such WELL");
        Lab x = new Lab(100);
        x.register(20, 1);
        int[] none = {-1, 48, 49, 127, 128, 255, 256, 276, Integer.MIN_VALUE, Integer.MAX_VALUE};
        for (int well : none) {
            DUE.is("move(1, " + well + ")", x.move(1, well), -2);
        }
        DUE.is("move(1, 0)", x.move(1, 0), 0);
        DUE.is("well(0)", x.well(0), 1);
        DUE.is("move(1, 47)", x.move(1, 47), 0);
        DUE.is("well(47)", x.well(47), 1);
    }

    private static void takenWells() {
        DUE.sentence("3 (the WELL it is in, too)");
        Lab x = new Lab(300);
        x.register(0, 1);
        x.register(47, 1);
        DUE.is("the WELL it is in", x.move(1, 0), -3);
        DUE.is("the WELL it is in", x.move(2, 47), -3);
        DUE.is("another's", x.move(1, 47), -3);
        DUE.is("another's", x.move(2, 0), -3);
        DUE.is("move(1, 1)", x.move(1, 1), 0);
        DUE.is("the WELL it is in now", x.move(1, 1), -3);
        DUE.is("the WELL it left, for another", x.move(2, 0), 0);
        x.aliquot(1, 2, 1);
        DUE.is("the WELL of one with VOLUME 0", x.move(3, 1), -3);
        x.discard(1);
        DUE.is("the WELL of a DISCARDED one", x.move(3, 1), 0);
    }

    private static void room() {
        DUE.sentence("6 no room");
        Lab full = Lab.withRoom(11, MoveTest::threeSamples);
        DUE.is("11 bytes are room", full.move(1, 9), 0);
        DUE.is("the bank is full", full.count(6), full.count(1));
        DUE.is("0 bytes are none", full.move(1, 10), -6);
        DUE.is("recover()", full.recover(), 5);
        DUE.is("well(9)", full.well(9), 1);
        DUE.is("10 bytes are none", Lab.withRoom(10, MoveTest::threeSamples).move(1, 9), -6);
    }

    private static void threeSamples(Lab x) {
        x.register(0, 1);
        x.register(1, 1);
        x.register(2, 1);
        x.discard(2);
    }

    private static void leastRefusal() {
        DUE.sentence("the least of those that hold, and nothing is written");
        int[] samples = {0, 4, 2, 1};
        int[] wells = {-1, 48, 0, 2, 1, 9};
        int[] rooms = {8, 10, 11};
        for (int room : rooms) {
            for (int sample : samples) {
                for (int well : wells) {
                    boolean none = sample != 1 || well < 0 || well > 47;
                    int want = Due.least(false, none, well == 0 || well == 2, false, false, room < 11);
                    Refusals.due(DUE, () -> Lab.withRoom(room, MoveTest::threeSamples),
                        "move(" + sample + ", " + well + ")", x -> x.move(sample, well), want);
                }
            }
        }
    }
}
