import java.nio.ByteBuffer;
import java.util.zip.CRC32;

/** HEADs and RECORDS as the document tells them, made by the Java library's own CRC-32. */
final class Bytes {
    private Bytes() {
    }

    static byte[] head(int generation) {
        return closed(ByteBuffer.allocate(9).putInt(generation), 9);
    }

    static byte[] register(int well, long volume) {
        return closed(begun(17, 1).put((byte) well).putLong(volume), 17);
    }

    static byte[] aliquot(int sample, int well, long volume) {
        return closed(begun(19, 2).putShort((short) sample).put((byte) well).putLong(volume), 19);
    }

    static byte[] move(int sample, int well) {
        return closed(begun(11, 3).putShort((short) sample).put((byte) well), 11);
    }

    static byte[] discard(int sample) {
        return closed(begun(10, 4).putShort((short) sample), 10);
    }

    static byte[] undo() {
        return closed(begun(8, 5), 8);
    }

    static byte[] kept(int parent, int well, long volume) {
        return closed(begun(19, 6).putShort((short) parent).put((byte) well).putLong(volume), 19);
    }

    static byte[] lost(long volume) {
        return closed(begun(16, 7).putLong(volume), 16);
    }

    static byte[] joined(int size, byte[]... parts) {
        ByteBuffer all = ByteBuffer.allocate(size);
        for (byte[] part : parts) {
            all.put(part);
        }
        return all.array();
    }

    /** Compares a whole bank with what is due there. */
    static void due(Due due, Lab x, int bank, byte[]... parts) {
        byte[] want = joined(x.count(1), parts);
        for (int i = 0; i < want.length; i++) {
            due.is("octet(" + bank + ", " + i + ")", x.octet(bank, i), want[i] & 255);
        }
    }

    private static ByteBuffer begun(int length, int kind) {
        return ByteBuffer.allocate(length).putShort((short) length).put((byte) kind);
    }

    private static byte[] closed(ByteBuffer buffer, int length) {
        CRC32 crc = new CRC32();
        crc.update(buffer.array(), 0, length - 5);
        return buffer.putInt((int) crc.getValue()).put((byte) 165).array();
    }
}
