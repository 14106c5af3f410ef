/** Promise 2: register. */
public final class RegisterTest {
    private static final Due DUE = new Due("promise 2");
    private static final long MAX = Long.MAX_VALUE;

    public static void main(String[] args) {
        ordinary();
        wells();
        takenWells();
        leastVolume();
        greatestVolume();
        allVolume();
        room();
        leastRefusal();
        powerDown();
        mostSamples();
        PowerCuts.ofRecord(DUE, RegisterTest::begun, x -> x.register(7, 0x0102030405060708L), 17);
        DUE.end();
    }

    /** Three RECORDS in bank 1, behind a COMPACT; well 0 taken, well 1 free again. */
    private static Lab begun() {
        Lab x = new Lab(150);
        x.register(0, 10);
        x.compact();
        x.register(1, 20);
        x.discard(2);
        return x;
    }

    private static void ordinary() {
        DUE.sentence("a new SAMPLE, LIVE, PARENT 0: its number");
        Lab x = new Lab(100);
        DUE.is("register(47, 7)", x.register(47, 7), 1);
        DUE.is("register(0, 0x0102030405060708)", x.register(0, 0x0102030405060708L), 2);
        Bytes.due(DUE, x, 0, Bytes.head(1), Bytes.register(47, 7), Bytes.register(0, 0x0102030405060708L));
        Bytes.due(DUE, x, 1);
        DUE.is("sample(2, 0)", x.sample(2, 0), 0);
        DUE.is("sample(2, 1)", x.sample(2, 1), 0);
        DUE.is("volume(2)", x.volume(2), 0x0102030405060708L);
        DUE.is("well(47)", x.well(47), 1);
        DUE.is("count(2)", x.count(2), 34);
        DUE.is("count(6)", x.count(6), 43);
        DUE.is("count(9)", x.count(9), 2);
    }

    private static void wells() {
        DUE.sentence("WELLS 0 to 47; 2 no such WELL");
        Lab x = new Lab(2048);
        for (int well = 0; well < 48; well++) {
            DUE.is("register(" + well + ", 1)", x.register(well, 1), well + 1);
            DUE.is("well(" + well + ")", x.well(well), well + 1);
            DUE.is("its byte", x.octet(0, 9 + 17 * well + 3), well);
        }
        int[] none = {-1, 48, 49, -48, 127, 128, 255, 256, 304, 65536, Integer.MIN_VALUE, Integer.MAX_VALUE};
        Lab free = new Lab(64);
        for (int well : none) {
            DUE.is("all are taken: register(" + well + ", 1)", x.register(well, 1), -2);
            DUE.is("all are free: register(" + well + ", 1)", free.register(well, 1), -2);
        }
        DUE.is("count(2)", free.count(2), 0);
    }

    private static void takenWells() {
        DUE.sentence("3 a LIVE SAMPLE is in it");
        Lab x = new Lab(300);
        x.register(0, 5);
        x.register(47, 5);
        DUE.is("register(0, 1)", x.register(0, 1), -3);
        DUE.is("register(47, 1)", x.register(47, 1), -3);
        x.aliquot(1, 1, 5);
        DUE.is("one with VOLUME 0 is LIVE", x.register(0, 1), -3);
        DUE.is("an aliquot's well", x.register(1, 1), -3);
        x.move(1, 2);
        DUE.is("the well it was moved to", x.register(2, 1), -3);
        DUE.is("the well it was moved from", x.register(0, 1), 4);
        x.discard(2);
        DUE.is("the well of one that is DISCARDED", x.register(47, 1), 5);
        x.undo();
        x.undo();
        DUE.is("the DISCARD undone", x.register(47, 1), -3);
        x.compact();
        x.recover();
        DUE.is("behind compact() and recover()", x.register(47, 1), -3);
    }

    private static void leastVolume() {
        DUE.sentence("4 VOLUME below 1");
        Lab x = new Lab(64);
        long[] wrong = {0, -1, -2, Integer.MIN_VALUE, -MAX, Long.MIN_VALUE, 1L << 63, -1L << 32};
        for (long volume : wrong) {
            DUE.is("register(0, " + volume + ")", x.register(0, volume), -4);
        }
        DUE.is("register(0, 1)", x.register(0, 1), 1);
        DUE.is("volume(1)", x.volume(1), 1);
        DUE.is("register(1, 2^32), low half 0", x.register(1, 1L << 32), 2);
        DUE.is("volume(2)", x.volume(2), 1L << 32);
    }

    private static void greatestVolume() {
        DUE.sentence("4 all LIVE and DISCARDED VOLUME would be 2^63 or more");
        Lab x = new Lab(200);
        DUE.is("the greatest of all", x.register(0, MAX), 1);
        DUE.is("volume(1)", x.volume(1), MAX);
        long[] more = {1, 2, 1L << 32, MAX - 1, MAX};
        for (long volume : more) {
            DUE.is("2^63 - 1 LIVE: register(1, " + volume + ")", x.register(1, volume), -4);
        }
        x.discard(1);
        for (long volume : more) {
            DUE.is("2^63 - 1 DISCARDED: register(1, " + volume + ")", x.register(1, volume), -4);
        }
        x.compact();
        DUE.is("behind compact()", x.register(1, 1), -4);
        x.recover();
        DUE.is("behind recover()", x.register(1, 1), -4);
        Lab half = new Lab(200);
        half.register(0, 1L << 62);
        DUE.is("2^62 and 2^62", half.register(1, 1L << 62), -4);
        DUE.is("2^62 and 2^62 - 1", half.register(1, (1L << 62) - 1), 2);
        DUE.is("one more", half.register(2, 1), -4);
    }

    private static void allVolume() {
        DUE.sentence("4 all LIVE and DISCARDED VOLUME would be 2^63 or more");
        Lab x = new Lab(300);
        x.register(0, MAX - 10);
        x.register(1, 4);
        x.discard(2);
        DUE.is("7 are too many beside MAX - 10 LIVE and 4 DISCARDED", x.register(2, 7), -4);
        DUE.is("6 are not", x.register(2, 6), 3);
        DUE.is("total(2, 0)", x.total(2, 0), MAX);
        DUE.is("register(3, 1)", x.register(3, 1), -4);
        DUE.is("undo()", x.undo(), 3);
        DUE.is("the REGISTER undone: 7", x.register(3, 7), -4);
        DUE.is("the REGISTER undone: 6", x.register(3, 6), 3);
        DUE.is("an ALIQUOT", x.aliquot(1, 4, 9), 4);
        DUE.is("adds nothing and takes nothing", x.register(5, 1), -4);
        x.compact();
        DUE.is("LOST counts", x.register(5, 1), -4);
        x.recover();
        DUE.is("LOST counts behind recover()", x.register(5, 1), -4);
        DUE.is("discard(1)", x.discard(1), 0);
        DUE.is("register(5, 1)", x.register(5, 1), -4);
        DUE.is("total(1, 0)", x.total(1, 0), MAX - 10 - 9 + 4);
    }

    private static void room() {
        DUE.sentence("6 no room");
        for (int bytes = 64; bytes < 130; bytes++) {
            Lab x = new Lab(bytes);
            int fitting = (bytes - 9) / 17;
            for (int i = 1; i <= fitting; i++) {
                DUE.is("bytes " + bytes + " register", x.register(i, 1), i);
            }
            DUE.is("bytes " + bytes + " one more", x.register(0, 1), -6);
            DUE.is("count(6)", x.count(6), 9 + 17 * fitting);
        }
        Lab full = Lab.withRoom(17, RegisterTest::threeWells);
        DUE.is("17 bytes are room", full.register(9, 1), 4);
        DUE.is("the bank is full", full.count(6), full.count(1));
        DUE.is("0 bytes are none", full.register(10, 1), -6);
        DUE.is("recover()", full.recover(), 4);
        DUE.is("16 bytes are none", Lab.withRoom(16, RegisterTest::threeWells).register(9, 1), -6);
        DUE.is("4 bytes are none", Lab.withRoom(4, RegisterTest::threeWells).register(9, 1), -6);
    }

    private static void threeWells(Lab x) {
        x.register(0, 1);
        x.register(1, 1);
        x.register(2, 1);
    }

    private static void leastRefusal() {
        DUE.sentence("the least of those that hold, and nothing is written");
        int[] wells = {-1, 48, 0, 2, 9};
        long[] volumes = {0, MAX, MAX - 2, MAX - 3, 1};
        int[] rooms = {8, 16, 17};
        for (int room : rooms) {
            for (int well : wells) {
                for (long volume : volumes) {
                    boolean none = well < 0 || well > 47;
                    boolean wrong = volume < 1 || volume > MAX - 3;
                    int want = Due.least(false, none, well == 0 || well == 2, wrong, false, room < 17);
                    Refusals.due(DUE, () -> Lab.withRoom(room, RegisterTest::threeWells),
                        "register(" + well + ", " + volume + ")", x -> x.register(well, volume), want == 0 ? 4 : want);
                }
            }
        }
    }

    private static void powerDown() {
        DUE.sentence("1: the power is down, of all");
        Lab x = new Lab(64);
        x.cut(0);
        DUE.is("refused ones write no byte: register(48, 1)", x.register(48, 1), -2);
        DUE.is("register(0, 0)", x.register(0, 0), -4);
        DUE.is("count(0)", x.count(0), 1);
        DUE.is("register(0, 1)", x.register(0, 1), -1);
        DUE.is("down: register(0, 1)", x.register(0, 1), -1);
        DUE.is("count(3)", x.count(3), 1);
        x.recover();
        DUE.is("up again", x.register(0, 1), 1);
    }

    /**
     * 111 SAMPLES are the most that any run can have: 48 are LIVE at the most, and the others cost least as KEPT of 19
     * bytes; 9 + 16 + 19 * 64 + 17 * 48 is 2057 and beyond the bank. So refusal 5 is out of reach (OutOfReachTest).
     */
    private static void mostSamples() {
        DUE.sentence("SAMPLES 1, 2, ..: 120 at most");
        Lab x = new Lab(2048);
        Crowd.registered(x, 63);
        for (int i = 0; i < 48; i++) {
            DUE.is("register(" + i + ", 1)", x.register(i, 1), 64 + i);
        }
        DUE.is("count(7)", x.count(7), 111);
        DUE.is("count(8)", x.count(8), 48);
        DUE.is("count(6)", x.count(6), 2038);
        DUE.is("a taken well", x.register(47, 1), -3);
        DUE.is("discard(111)", x.discard(111), 0);
        DUE.is("count(6)", x.count(6), 2048);
        DUE.is("no room, not: there are 120", x.register(47, 1), -6);
        DUE.is("nor by aliquot", x.aliquot(110, 47, 1), -6);
        DUE.is("recover()", x.recover(), 1 + 63 + 48 + 1);
        DUE.is("count(7)", x.count(7), 111);
        DUE.is("well(46)", x.well(46), 110);
    }
}
