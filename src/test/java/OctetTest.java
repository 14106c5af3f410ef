/** Promise 10: octet. */
public final class OctetTest {
    private static final Due DUE = new Due("promise 10");

    public static void main(String[] args) {
        values();
        places();
        fullBanks();
        down();
        DUE.end();
    }

    private static void values() {
        DUE.sentence("Byte i of a bank, 0 to 255");
        Lab x = new Lab(64);
        x.register(0, Long.MAX_VALUE);
        Bytes.due(DUE, x, 0, Bytes.head(1), Bytes.register(0, Long.MAX_VALUE));
        DUE.is("127, the greatest of a signed byte", x.octet(0, 13), 127);
        DUE.is("255, the greatest", x.octet(0, 14), 255);
        DUE.is("0, the least", x.octet(0, 26), 0);
        Lab y = new Lab(64);
        y.register(0, 128);
        DUE.is("128, the least above a signed byte", y.octet(0, 20), 128);
        DUE.sentence("CHECK is CRC-32; numbers of several bytes: the highest first");
        int[] head = {0, 0, 0, 1, 0x56, 0x43, 0xef, 0x8a, 165};
        for (int i = 0; i < head.length; i++) {
            DUE.is("octet(0, " + i + ")", y.octet(0, i), head[i]);
        }
    }

    private static void places() {
        DUE.sentence("NONE without it");
        int[] sizes = {64, 65, 2047, 2048};
        int[] banks = {-1, 2, 3, 256, Integer.MIN_VALUE, Integer.MAX_VALUE};
        for (int bytes : sizes) {
            Lab x = new Lab(bytes);
            int[] none = {-1, bytes, bytes + 1, 4096, -bytes, Integer.MIN_VALUE, Integer.MAX_VALUE};
            for (int place : none) {
                DUE.is("octet(0, " + place + ")", x.octet(0, place), -1);
                DUE.is("octet(1, " + place + ")", x.octet(1, place), -1);
                DUE.is("octet(2, " + place + ")", x.octet(2, place), -1);
            }
            for (int bank : banks) {
                DUE.is("octet(" + bank + ", 0)", x.octet(bank, 0), -1);
                DUE.is("octet(" + bank + ", last)", x.octet(bank, bytes - 1), -1);
            }
            for (int bank = 0; bank < 2; bank++) {
                DUE.is("octet(" + bank + ", 0)", x.octet(bank, 0), 0);
                DUE.is("octet(" + bank + ", last)", x.octet(bank, bytes - 1), 0);
            }
        }
    }

    private static void fullBanks() {
        DUE.sentence("Byte i of a bank");
        Lab least = new Lab(64);
        least.register(0, 5);
        least.aliquot(1, 1, 2);
        least.move(2, 5);
        least.undo();
        DUE.is("the last byte of 64", least.octet(0, 63), 165);
        DUE.is("the other bank's", least.octet(1, 63), 0);
        Lab greatest = new Lab(2048);
        greatest.register(0, 1);
        for (int i = 1; i <= 106; i++) {
            greatest.move(1, 1 + i % 47);
            greatest.undo();
        }
        DUE.is("undo()", greatest.undo(), 0);
        DUE.is("the last byte of 2048", greatest.octet(0, 2047), 165);
        DUE.is("behind it", greatest.octet(0, 2048), -1);
    }

    private static void down() {
        DUE.sentence("Byte i of a bank (the power may be down)");
        Lab x = new Lab(64);
        x.register(0, Long.MAX_VALUE);
        x.cut(2);
        x.discard(1);
        DUE.is("octet(0, 8)", x.octet(0, 8), 165);
        DUE.is("octet(0, 27)", x.octet(0, 27), 10);
        DUE.is("octet(0, 28)", x.octet(0, 28), 0);
        DUE.is("octet(1, 63)", x.octet(1, 63), 0);
        DUE.is("octet(0, 64)", x.octet(0, 64), -1);
        DUE.is("octet(0, -1)", x.octet(0, -1), -1);
        DUE.is("octet(2, 0)", x.octet(2, 0), -1);
        DUE.is("octet(-1, 0)", x.octet(-1, 0), -1);
    }
}
