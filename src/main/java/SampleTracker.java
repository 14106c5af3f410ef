/**
 * A tracker of a laboratory's samples in wells, kept in a journal of bytes on two banks.
 * The words in capitals (REGISTER, HEAD, KEPT ..) are those of the document.
 */
public final class SampleTracker {
    public static final int NONE = -1;

    private static final int ALLOWED = 0;
    private static final int POWER_DOWN = -1;
    private static final int NOT_THERE = -2;
    private static final int WELL_TAKEN = -3;
    private static final int WRONG_VOLUME = -4;
    private static final int TOO_MANY = -5;
    private static final int NO_ROOM = -6;
    private static final int NOTHING_TO_UNDO = -7;

    private static final int REGISTER = 1;
    private static final int ALIQUOT = 2;
    private static final int MOVE = 3;
    private static final int DISCARD = 4;
    private static final int UNDO = 5;
    private static final int KEPT = 6;
    private static final int LOST = 7;

    private static final int WELLS = 48;
    private static final int MOST_SAMPLES = 120;
    private static final int NOBODY = 0;

    private static final int LEAST_BYTES = 64;
    private static final int MOST_BYTES = 2048;
    private static final int HEAD_BYTES = 9;
    private static final int LEAST_RECORD_BYTES = 8;
    private static final int KEPT_BYTES = 19;
    private static final int LOST_BYTES = 16;
    private static final int MOST_RECORDS = MOST_BYTES / LEAST_RECORD_BYTES;
    private static final int CLOSING_BYTES = 5;
    private static final int CLOSING_MARK = 165;
    private static final int DISCARDED_WELL_BYTE = 255;

    private final Power power;
    private final Journal journal;
    private final Table table;
    private final Entry entry;

    public SampleTracker(int bytes) {
        power = new Power();
        journal = new Journal(Math.max(LEAST_BYTES, Math.min(MOST_BYTES, bytes)), power);
        table = new Table();
        entry = new Entry();
    }

    public int register(int well, long volume) {
        entry.set(REGISTER, NOBODY, well, volume);
        int refusal = carryOut(refusalOfNewSample(true, table.volumeStillAllowed()));
        return refusal == ALLOWED ? table.sampleCount() : refusal;
    }

    public int aliquot(int sample, int well, long volume) {
        entry.set(ALIQUOT, sample, well, volume);
        int refusal = carryOut(refusalOfNewSample(table.isLive(sample), table.volumeOf(sample)));
        return refusal == ALLOWED ? table.sampleCount() : refusal;
    }

    public int move(int sample, int well) {
        entry.set(MOVE, sample, well, 0L);
        int refusal = refusalOfWell(table.isLive(sample));
        return carryOut(refusal == ALLOWED ? refusalOfRoom() : refusal);
    }

    public int discard(int sample) {
        entry.set(DISCARD, sample, 0, 0L);
        if (!power.isUp()) {
            return POWER_DOWN;
        }
        if (!table.isLive(sample)) {
            return NOT_THERE;
        }
        return carryOut(refusalOfRoom());
    }

    public int undo() {
        entry.set(UNDO, NOBODY, 0, 0L);
        if (!power.isUp()) {
            return POWER_DOWN;
        }
        int refusal = refusalOfRoom();
        if (refusal == ALLOWED && table.pastActs() == 0) {
            refusal = NOTHING_TO_UNDO;
        }
        refusal = carryOut(refusal);
        return refusal == ALLOWED ? table.pastActs() : refusal;
    }

    public int compact() {
        if (!power.isUp()) {
            return POWER_DOWN;
        }
        if (!journal.otherBankHolds(table.sampleCount())) {
            return NO_ROOM;
        }
        if (!journal.writeAnew(table, entry)) {
            return POWER_DOWN;
        }
        table.forgetPast();
        return 0;
    }

    public int cut(int n) {
        if (n < 0 || !power.isUp()) {
            return NONE;
        }
        power.failBehind(n);
        return 1;
    }

    public int recover() {
        power.restore();
        journal.chooseBank();
        table.makeEmpty();
        int records = 0;
        while (records < MOST_RECORDS && journal.readNext(entry)) {
            table.apply(entry);
            records++;
        }
        journal.blankTheRest();
        return records;
    }

    public int octet(int bank, int i) {
        return bank == 0 || bank == 1 ? journal.bank(bank).at(i) : NONE;
    }

    public int sample(int sample, int what) {
        if (!power.isUp() || !table.isSample(sample)) {
            return NONE;
        }
        switch (what) {
            case 0: return table.parentOf(sample);
            case 1: return table.wellOf(sample);
            case 2: return table.childrenOf(sample);
            case 3: return table.stepsToOrigin(sample);
            case 4: return table.originOf(sample);
            default: return NONE;
        }
    }

    public long volume(int sample) {
        return power.isUp() ? table.volumeOf(sample) : NONE;
    }

    public int well(int well) {
        return power.isUp() ? table.sampleIn(well) : NONE;
    }

    public long total(int what, int which) {
        if (!power.isUp()) {
            return NONE;
        }
        switch (what) {
            case 0: return table.liveVolume();
            case 1: return table.lostVolume();
            case 2: return table.liveVolume() + table.lostVolume();
            case 3: return table.volumeOfFamily(which);
            default: return NONE;
        }
    }

    public int count(int what) {
        switch (what) {
            case 0: return power.isUp() ? 1 : 0;
            case 1: return journal.bankBytes();
            case 2: return power.bytesWritten();
            case 3: return power.failures();
            default: return power.isUp() ? countWithPower(what) : NONE;
        }
    }

    private int countWithPower(int what) {
        switch (what) {
            case 4: return journal.bankInUse();
            case 5: return journal.generation();
            case 6: return journal.end();
            case 7: return table.sampleCount();
            case 8: return table.liveCount();
            case 9: return table.pastActs();
            default: return NONE;
        }
    }

    private int refusalOfNewSample(boolean sourceIsThere, long mostVolume) {
        int refusal = refusalOfWell(sourceIsThere);
        if (refusal != ALLOWED) {
            return refusal;
        }
        if (entry.volume < 1 || entry.volume > mostVolume) {
            return WRONG_VOLUME;
        }
        if (table.isFull()) {
            return TOO_MANY;
        }
        return refusalOfRoom();
    }

    private int refusalOfWell(boolean sourceIsThere) {
        if (!power.isUp()) {
            return POWER_DOWN;
        }
        if (!sourceIsThere || !isWell(entry.well)) {
            return NOT_THERE;
        }
        return table.sampleIn(entry.well) != NONE ? WELL_TAKEN : ALLOWED;
    }

    private int refusalOfRoom() {
        return journal.hasRoomFor(entry) ? ALLOWED : NO_ROOM;
    }

    /** If the power fails behind the very last byte the table need not follow: recover() makes it anew. */
    private int carryOut(int refusal) {
        if (refusal != ALLOWED) {
            return refusal;
        }
        if (!journal.append(entry)) {
            return POWER_DOWN;
        }
        table.apply(entry);
        return ALLOWED;
    }

    private static boolean isWell(int well) {
        return well >= 0 && well < WELLS;
    }

    /** What the power is, and the bytes that it has let through. */
    private static final class Power {
        private boolean up = true;
        private boolean cutWaits = false;
        private int bytesLeft = 0;
        private int written = 0;
        private int failed = 0;

        boolean isUp() {
            return up;
        }

        int bytesWritten() {
            return written;
        }

        int failures() {
            return failed;
        }

        void failBehind(int bytes) {
            cutWaits = true;
            bytesLeft = bytes;
        }

        void restore() {
            up = true;
            cutWaits = false;
        }

        /** A cut behind 0 bytes waits for the next byte; any other one fails as soon as its last byte is through. */
        boolean letByteThrough() {
            boolean through = up && !(cutWaits && bytesLeft == 0);
            if (through) {
                written++;
                bytesLeft -= cutWaits ? 1 : 0;
            }
            if (cutWaits && bytesLeft == 0) {
                up = false;
                cutWaits = false;
                failed++;
            }
            return through;
        }
    }

    /** CRC-32, half a byte at a time: sixteen numbers are enough for the table. */
    private static final class Crc {
        private static final int BEGIN = -1;
        private static final int[] OF_HALF_BYTE = {
            0x00000000, 0x1db71064, 0x3b6e20c8, 0x26d930ac,
            0x76dc4190, 0x6b6b51f4, 0x4db26158, 0x5005713c,
            0xedb88320, 0xf00f9344, 0xd6d6a3e8, 0xcb61b38c,
            0x9b64c2b0, 0x86d3d2d4, 0xa00ae278, 0xbdbdf21c
        };

        static int step(int crc, int octet) {
            int half = (crc >>> 4) ^ OF_HALF_BYTE[(crc ^ octet) & 15];
            return (half >>> 4) ^ OF_HALF_BYTE[(half ^ (octet >>> 4)) & 15];
        }

        static int end(int crc) {
            return ~crc;
        }
    }

    /** One bank's bytes. What is put here directly is not counted: that which counts goes through a Pen. */
    private static final class Bank {
        private final byte[] bytes;

        Bank(int size) {
            bytes = new byte[Math.max(0, size)];
        }

        int size() {
            return bytes.length;
        }

        int at(int i) {
            return i >= 0 && i < bytes.length ? bytes[i] & 255 : NONE;
        }

        void put(int i, int octet) {
            if (i >= 0 && i < bytes.length) {
                bytes[i] = (byte) octet;
            }
        }

        long number(int from, int howManyBytes) {
            long number = 0;
            for (int i = 0; i < howManyBytes; i++) {
                number = (number << 8) | (at(from + i) & 255);
            }
            return number;
        }

        boolean hasRightHead() {
            return isClosedRight(0, HEAD_BYTES);
        }

        /** The length of the RECORD that begins there; 0 if none is whole there. */
        int wholeRecordAt(int from) {
            int length = (int) number(from, 2);
            boolean fits = length >= LEAST_RECORD_BYTES && length <= bytes.length - from;
            return fits && isClosedRight(from, length) ? length : 0;
        }

        /** HEAD and RECORDS end alike: CHECK of all ahead of it, and the mark. */
        private boolean isClosedRight(int from, int length) {
            int behind = from + length - CLOSING_BYTES;
            int crc = Crc.BEGIN;
            for (int i = from; i < behind; i++) {
                crc = Crc.step(crc, at(i));
            }
            return (int) number(behind, 4) == Crc.end(crc) && at(behind + 4) == CLOSING_MARK;
        }

        void blankFrom(int from) {
            for (int i = Math.max(0, from); i < bytes.length; i++) {
                bytes[i] = 0;
            }
        }
    }

    /** What one RECORD says; of KEPT the sample is the PARENT. Parts that its kind lacks mean nothing. */
    private static final class Entry {
        private int kind = 0;
        private int sample = NOBODY;
        private int well = 0;
        private long volume = 0;

        void set(int newKind, int newSample, int newWell, long newVolume) {
            kind = newKind;
            sample = newSample;
            well = newWell;
            volume = newVolume;
        }

        boolean hasSample() {
            return kind == ALIQUOT || kind == MOVE || kind == DISCARD || kind == KEPT;
        }

        boolean hasWell() {
            return kind == REGISTER || kind == ALIQUOT || kind == MOVE || kind == KEPT;
        }

        boolean hasVolume() {
            return kind == REGISTER || kind == ALIQUOT || kind == KEPT || kind == LOST;
        }

        int length() {
            return LEAST_RECORD_BYTES + (hasSample() ? 2 : 0) + (hasWell() ? 1 : 0) + (hasVolume() ? 8 : 0);
        }

        void readFrom(Bank bank, int from) {
            kind = bank.at(from + 2);
            int position = from + 3;
            sample = hasSample() ? (int) bank.number(position, 2) : NOBODY;
            position += hasSample() ? 2 : 0;
            well = hasWell() ? bank.at(position) : 0;
            position += hasWell() ? 1 : 0;
            volume = hasVolume() ? bank.number(position, 8) : 0;
        }
    }

    /** Writes counted bytes one behind the other, as long as the power lets them through. */
    private static final class Pen {
        private final Power power;
        private Bank bank;
        private int position = 0;
        private int crc = Crc.BEGIN;

        Pen(Power itsPower, Bank itsBank) {
            power = itsPower;
            bank = itsBank;
        }

        int position() {
            return position;
        }

        void goTo(Bank newBank, int newPosition) {
            bank = newBank;
            position = newPosition;
        }

        void writeZeros(int howMany) {
            for (int i = 0; i < howMany; i++) {
                writeByte(0);
            }
        }

        void writeHead(int generation) {
            crc = Crc.BEGIN;
            writeNumber(generation, 4);
            writeNumber(Crc.end(crc), 4);
            writeByte(CLOSING_MARK);
        }

        void writeRecord(Entry entry) {
            crc = Crc.BEGIN;
            writeNumber(entry.length(), 2);
            writeNumber(entry.kind, 1);
            if (entry.hasSample()) {
                writeNumber(entry.sample, 2);
            }
            if (entry.hasWell()) {
                writeNumber(entry.well, 1);
            }
            if (entry.hasVolume()) {
                writeNumber(entry.volume, 8);
            }
            writeNumber(Crc.end(crc), 4);
            writeByte(CLOSING_MARK);
        }

        private void writeNumber(long number, int howManyBytes) {
            for (int i = howManyBytes - 1; i >= 0; i--) {
                int octet = (int) (number >>> (8 * i)) & 255;
                crc = Crc.step(crc, octet);
                writeByte(octet);
            }
        }

        private void writeByte(int octet) {
            if (power.letByteThrough()) {
                bank.put(position, octet);
                position++;
            }
        }
    }

    /** The two banks, and where the one in use ends. */
    private static final class Journal {
        private final Power power;
        private final Bank first;
        private final Bank second;
        private final Pen pen;
        private int inUse = 0;
        private int end = HEAD_BYTES;

        Journal(int size, Power itsPower) {
            power = itsPower;
            first = new Bank(size);
            second = new Bank(size);
            pen = new Pen(itsPower, first);
            // The first HEAD does not count: a power of its own takes its bytes.
            Pen uncounted = new Pen(new Power(), first);
            uncounted.writeHead(1);
        }

        Bank bank(int number) {
            return number == 0 ? first : second;
        }

        int bankBytes() {
            return first.size();
        }

        int bankInUse() {
            return inUse;
        }

        int generation() {
            return (int) bank(inUse).number(0, 4);
        }

        int end() {
            return end;
        }

        boolean hasRoomFor(Entry entry) {
            return entry.length() <= bankBytes() - end;
        }

        /** Tells whether the power outlived the RECORD's last byte. */
        boolean append(Entry entry) {
            pen.goTo(bank(inUse), end);
            pen.writeRecord(entry);
            if (!power.isUp()) {
                return false;
            }
            end = pen.position();
            return true;
        }

        boolean otherBankHolds(int samples) {
            return HEAD_BYTES + LOST_BYTES + samples * KEPT_BYTES <= bankBytes();
        }

        /** The HEAD goes last, so that a copy that was cut short is never taken for the table. */
        boolean writeAnew(Table table, Entry entry) {
            Bank other = bank(1 - inUse);
            pen.goTo(other, 0);
            pen.writeZeros(other.size());
            pen.goTo(other, HEAD_BYTES);
            entry.set(LOST, NOBODY, 0, table.lostVolume());
            pen.writeRecord(entry);
            for (int s = 1; s <= table.sampleCount(); s++) {
                int wellByte = table.isLive(s) ? table.wellOf(s) : DISCARDED_WELL_BYTE;
                entry.set(KEPT, table.parentOf(s), wellByte, table.volumeOf(s));
                pen.writeRecord(entry);
            }
            int otherEnd = pen.position();
            pen.goTo(other, 0);
            pen.writeHead(generation() + 1);
            if (!power.isUp()) {
                return false;
            }
            inUse = 1 - inUse;
            end = otherEnd;
            return true;
        }

        void chooseBank() {
            boolean firstIsRight = first.hasRightHead();
            boolean secondIsRight = second.hasRightHead();
            boolean secondIsNewer = second.number(0, 4) > first.number(0, 4);
            inUse = secondIsRight && (secondIsNewer || !firstIsRight) ? 1 : 0;
            end = HEAD_BYTES;
        }

        boolean readNext(Entry entry) {
            int length = bank(inUse).wholeRecordAt(end);
            if (length == 0) {
                return false;
            }
            entry.readFrom(bank(inUse), end);
            end += length;
            return true;
        }

        void blankTheRest() {
            bank(inUse).blankFrom(end);
        }
    }

    /** The SAMPLES, and what the ACTS make of them. */
    private static final class Table {
        private final int[] parents = new int[MOST_SAMPLES + 1];
        private final int[] wells = new int[MOST_SAMPLES + 1];
        private final long[] volumes = new long[MOST_SAMPLES + 1];
        private final boolean[] inFamily = new boolean[MOST_SAMPLES + 1];
        private final Past past = new Past();
        private int samples = 0;
        private long lost = 0;

        int sampleCount() {
            return samples;
        }

        boolean isFull() {
            return samples >= MOST_SAMPLES;
        }

        boolean isSample(int sample) {
            return sample >= 1 && sample <= samples && samples <= MOST_SAMPLES;
        }

        boolean isLive(int sample) {
            return wellOf(sample) != NONE;
        }

        int parentOf(int sample) {
            return isSample(sample) ? parents[sample] : NOBODY;
        }

        int wellOf(int sample) {
            return isSample(sample) ? wells[sample] : NONE;
        }

        long volumeOf(int sample) {
            return isSample(sample) ? volumes[sample] : NONE;
        }

        int sampleIn(int well) {
            for (int s = 1; isWell(well) && s <= samples; s++) {
                if (wellOf(s) == well) {
                    return s;
                }
            }
            return NONE;
        }

        int liveCount() {
            int live = 0;
            for (int s = 1; s <= samples; s++) {
                live += isLive(s) ? 1 : 0;
            }
            return live;
        }

        int childrenOf(int sample) {
            int children = 0;
            for (int s = 1; s <= samples; s++) {
                children += parentOf(s) == sample ? 1 : 0;
            }
            return children;
        }

        int stepsToOrigin(int sample) {
            int steps = 0;
            int at = sample;
            while (steps < MOST_SAMPLES && parentOf(at) != NOBODY) {
                at = parentOf(at);
                steps++;
            }
            return steps;
        }

        int originOf(int sample) {
            int at = sample;
            for (int i = stepsToOrigin(sample); i > 0; i--) {
                at = parentOf(at);
            }
            return at;
        }

        /** DISCARDED ones have VOLUME 0, so all may be added. */
        long liveVolume() {
            long sum = 0;
            for (int s = 1; s <= samples; s++) {
                sum += volumeOf(s);
            }
            return sum;
        }

        long lostVolume() {
            return lost;
        }

        long volumeStillAllowed() {
            return Long.MAX_VALUE - liveVolume() - lost;
        }

        /** A PARENT's number is below its children's, so one pass upwards finds the whole family. */
        long volumeOfFamily(int eldest) {
            if (!isSample(eldest)) {
                return NONE;
            }
            long sum = 0;
            for (int s = 1; s <= samples && s <= MOST_SAMPLES; s++) {
                int parent = parentOf(s);
                inFamily[s] = s == eldest || (isSample(parent) && inFamily[parent]);
                sum += inFamily[s] ? volumes[s] : 0;
            }
            return sum;
        }

        int pastActs() {
            return past.size();
        }

        void forgetPast() {
            past.forget();
        }

        void makeEmpty() {
            samples = 0;
            lost = 0;
            past.forget();
        }

        void apply(Entry entry) {
            switch (entry.kind) {
                case REGISTER: applyRegister(entry); break;
                case ALIQUOT: applyAliquot(entry); break;
                case MOVE: applyMove(entry); break;
                case DISCARD: applyDiscard(entry); break;
                case UNDO: applyUndo(); break;
                case KEPT: applyKept(entry); break;
                case LOST: lost = entry.volume; break;
                default: break;
            }
        }

        private void applyRegister(Entry entry) {
            remember(NOBODY);
            addSample(NOBODY, entry.well, entry.volume);
        }

        private void applyAliquot(Entry entry) {
            if (isSample(entry.sample)) {
                remember(entry.sample);
                volumes[entry.sample] -= entry.volume;
                addSample(entry.sample, entry.well, entry.volume);
            }
        }

        private void applyMove(Entry entry) {
            if (isSample(entry.sample)) {
                remember(entry.sample);
                wells[entry.sample] = entry.well;
            }
        }

        private void applyDiscard(Entry entry) {
            if (isSample(entry.sample)) {
                remember(entry.sample);
                lost += volumes[entry.sample];
                volumes[entry.sample] = 0;
                wells[entry.sample] = NONE;
            }
        }

        private void applyKept(Entry entry) {
            addSample(entry.sample, entry.well == DISCARDED_WELL_BYTE ? NONE : entry.well, entry.volume);
        }

        private void applyUndo() {
            if (past.stepBack()) {
                samples = past.samplesBefore();
                lost = past.lostBefore();
                int touched = past.touched();
                if (isSample(touched)) {
                    wells[touched] = past.wellBefore();
                    volumes[touched] = past.volumeBefore();
                }
            }
        }

        private void remember(int touched) {
            past.add(samples, lost, touched, wellOf(touched), volumeOf(touched));
        }

        private void addSample(int parent, int well, long volume) {
            if (!isFull()) {
                samples++;
                parents[samples] = parent;
                wells[samples] = well;
                volumes[samples] = volume;
            }
        }
    }

    /** What each ACT that can be undone found: an ACT changes one SAMPLE at most that was there before. */
    private static final class Past {
        private final int[] samples = new int[MOST_RECORDS];
        private final long[] lost = new long[MOST_RECORDS];
        private final int[] touched = new int[MOST_RECORDS];
        private final int[] wells = new int[MOST_RECORDS];
        private final long[] volumes = new long[MOST_RECORDS];
        private int size = 0;

        int size() {
            return size;
        }

        void forget() {
            size = 0;
        }

        void add(int samplesNow, long lostNow, int sample, int wellNow, long volumeNow) {
            if (size < MOST_RECORDS) {
                samples[size] = samplesNow;
                lost[size] = lostNow;
                touched[size] = sample;
                wells[size] = wellNow;
                volumes[size] = volumeNow;
                size++;
            }
        }

        /** Behind a step back the ACT stepped over is told, till the next one is added. */
        boolean stepBack() {
            if (size == 0) {
                return false;
            }
            size--;
            return true;
        }

        int samplesBefore() {
            return size < MOST_RECORDS ? samples[size] : 0;
        }

        long lostBefore() {
            return size < MOST_RECORDS ? lost[size] : 0;
        }

        int touched() {
            return size < MOST_RECORDS ? touched[size] : NOBODY;
        }

        int wellBefore() {
            return size < MOST_RECORDS ? wells[size] : NONE;
        }

        long volumeBefore() {
            return size < MOST_RECORDS ? volumes[size] : 0;
        }
    }
}
