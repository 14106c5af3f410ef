import java.math.BigInteger;
import java.nio.ByteBuffer;
import java.util.ArrayList;
import java.util.Arrays;
import java.util.HashSet;
import java.util.List;
import java.util.Set;
import java.util.zip.CRC32;

/** The document once more, as plainly as can be: it keeps only the bytes, and reads them anew for each call. */
final class PlainTracker {
    private final byte[][] banks;
    private boolean up = true;
    private int left = -1;
    private int written = 0;
    private int failures = 0;

    /** What the RECORDS of the bank in use make. */
    private final class State {
        final List<long[]> samples = new ArrayList<>();
        final List<byte[]> acts = new ArrayList<>();
        int bank;
        int generation;
        int end = 9;
        int records = 0;
        BigInteger lost = BigInteger.ZERO;

        State() {
            bank = -1;
            for (int b = 0; b < 2; b++) {
                if (right(banks[b], 0, 9) && (bank < 0 || ByteBuffer.wrap(banks[b]).getInt() > generation)) {
                    bank = b;
                    generation = ByteBuffer.wrap(banks[b]).getInt();
                }
            }
            byte[] bytes = banks[bank];
            while (end + 8 <= bytes.length) {
                int length = ByteBuffer.wrap(bytes).getShort(end) & 65535;
                if (length < 8 || end + length > bytes.length || !right(bytes, end, length)) {
                    break;
                }
                read(Arrays.copyOfRange(bytes, end, end + length));
                end += length;
                records++;
            }
            for (byte[] act : acts) {
                make(act);
            }
        }

        private void read(byte[] record) {
            ByteBuffer in = ByteBuffer.wrap(record);
            if (record[2] == 5) {
                acts.remove(acts.size() - 1);
            } else if (record[2] == 6) {
                int well = record[5] & 255;
                samples.add(new long[] {in.getShort(3), well == 255 ? -1 : well, in.getLong(6)});
            } else if (record[2] == 7) {
                lost = BigInteger.valueOf(in.getLong(3));
            } else {
                acts.add(record);
            }
        }

        private void make(byte[] record) {
            ByteBuffer in = ByteBuffer.wrap(record);
            if (record[2] == 1) {
                samples.add(new long[] {0, record[3], in.getLong(4)});
                return;
            }
            long[] sample = samples.get(in.getShort(3) - 1);
            if (record[2] == 2) {
                sample[2] -= in.getLong(6);
                samples.add(new long[] {in.getShort(3), record[5], in.getLong(6)});
            } else if (record[2] == 3) {
                sample[1] = record[5];
            } else {
                lost = lost.add(BigInteger.valueOf(sample[2]));
                sample[1] = -1;
                sample[2] = 0;
            }
        }

        boolean has(int sample) {
            return sample > 0 && sample <= samples.size();
        }

        boolean live(int sample) {
            return has(sample) && samples.get(sample - 1)[1] >= 0;
        }

        int in(int well) {
            for (int s = 1; s <= samples.size(); s++) {
                if (well >= 0 && samples.get(s - 1)[1] == well) {
                    return s;
                }
            }
            return -1;
        }

        BigInteger liveVolume() {
            BigInteger sum = BigInteger.ZERO;
            for (long[] sample : samples) {
                sum = sum.add(BigInteger.valueOf(sample[2]));
            }
            return sum;
        }

        List<Integer> line(int sample) {
            List<Integer> line = new ArrayList<>();
            for (int s = sample; s != 0; s = (int) samples.get(s - 1)[0]) {
                line.add(s);
            }
            return line;
        }
    }

    PlainTracker(int bytes) {
        int size = bytes < 64 ? 64 : bytes > 2048 ? 2048 : bytes;
        banks = new byte[2][size];
        System.arraycopy(Bytes.head(1), 0, banks[0], 0, 9);
    }

    private static boolean right(byte[] bytes, int from, int length) {
        CRC32 crc = new CRC32();
        crc.update(bytes, from, length - 5);
        boolean checked = ByteBuffer.wrap(bytes).getInt(from + length - 5) == (int) crc.getValue();
        return checked && (bytes[from + length - 1] & 255) == 165;
    }

    private void write(int bank, int from, byte[] what) {
        for (int i = 0; i < what.length && up; i++) {
            if (left == 0) {
                up = false;
                failures++;
                break;
            }
            banks[bank][from + i] = what[i];
            written++;
            left -= left > 0 ? 1 : 0;
            if (left == 0) {
                up = false;
                failures++;
            }
        }
    }

    /** The least of the refusals that hold, 0 if the RECORD was written whole and the power is up. */
    private int act(State state, Set<Integer> refusals, byte[] record) {
        if (state.end + record.length > banks[0].length) {
            refusals.add(6);
        }
        for (int n = 1; n <= 7; n++) {
            if (refusals.contains(n)) {
                return -n;
            }
        }
        write(state.bank, state.end, record);
        return up ? 0 : -1;
    }

    private Set<Integer> refusalsOfWell(State state, int well) {
        Set<Integer> refusals = new HashSet<>();
        if (!up) {
            refusals.add(1);
        }
        if (well < 0 || well > 47) {
            refusals.add(2);
        } else if (state.in(well) > 0) {
            refusals.add(3);
        }
        return refusals;
    }

    int register(int well, long volume) {
        State state = new State();
        Set<Integer> refusals = refusalsOfWell(state, well);
        BigInteger all = state.liveVolume().add(state.lost).add(BigInteger.valueOf(volume));
        if (volume < 1 || all.bitLength() > 63) {
            refusals.add(4);
        }
        if (state.samples.size() == 120) {
            refusals.add(5);
        }
        int refused = act(state, refusals, Bytes.register(well, volume));
        return refused == 0 ? state.samples.size() + 1 : refused;
    }

    int aliquot(int sample, int well, long volume) {
        State state = new State();
        Set<Integer> refusals = refusalsOfWell(state, well);
        if (!state.live(sample)) {
            refusals.add(2);
        }
        if (volume < 1 || state.has(sample) && volume > state.samples.get(sample - 1)[2]) {
            refusals.add(4);
        }
        if (state.samples.size() == 120) {
            refusals.add(5);
        }
        int refused = act(state, refusals, Bytes.aliquot(sample, well, volume));
        return refused == 0 ? state.samples.size() + 1 : refused;
    }

    int move(int sample, int well) {
        State state = new State();
        Set<Integer> refusals = refusalsOfWell(state, well);
        if (!state.live(sample)) {
            refusals.add(2);
        }
        return act(state, refusals, Bytes.move(sample, well));
    }

    int discard(int sample) {
        State state = new State();
        Set<Integer> refusals = new HashSet<>();
        if (!up) {
            refusals.add(1);
        }
        if (!state.live(sample)) {
            refusals.add(2);
        }
        return act(state, refusals, Bytes.discard(sample));
    }

    int undo() {
        State state = new State();
        Set<Integer> refusals = new HashSet<>();
        if (!up) {
            refusals.add(1);
        }
        if (state.acts.isEmpty()) {
            refusals.add(7);
        }
        int refused = act(state, refusals, Bytes.undo());
        return refused == 0 ? state.acts.size() - 1 : refused;
    }

    int compact() {
        State state = new State();
        if (!up) {
            return -1;
        }
        byte[][] parts = new byte[state.samples.size() + 1][];
        int length = 0;
        parts[0] = Bytes.lost(state.lost.longValueExact());
        for (int s = 1; s < parts.length; s++) {
            long[] sample = state.samples.get(s - 1);
            parts[s] = Bytes.kept((int) sample[0], sample[1] < 0 ? 255 : (int) sample[1], sample[2]);
        }
        for (byte[] part : parts) {
            length += part.length;
        }
        if (9 + length > banks[0].length) {
            return -6;
        }
        write(1 - state.bank, 0, new byte[banks[0].length]);
        write(1 - state.bank, 9, Bytes.joined(length, parts));
        write(1 - state.bank, 0, Bytes.head(state.generation + 1));
        return up ? 0 : -1;
    }

    int cut(int n) {
        if (n < 0 || !up) {
            return -1;
        }
        left = n;
        return 1;
    }

    int recover() {
        State state = new State();
        Arrays.fill(banks[state.bank], state.end, banks[state.bank].length, (byte) 0);
        up = true;
        left = -1;
        return state.records;
    }

    int octet(int bank, int i) {
        return bank >= 0 && bank < 2 && i >= 0 && i < banks[bank].length ? banks[bank][i] & 255 : -1;
    }

    int sample(int sample, int what) {
        State state = new State();
        if (!up || !state.has(sample)) {
            return -1;
        }
        List<Integer> line = state.line(sample);
        switch (what) {
            case 0: return (int) state.samples.get(sample - 1)[0];
            case 1: return (int) state.samples.get(sample - 1)[1];
            case 2: return (int) state.samples.stream().filter(one -> one[0] == sample).count();
            case 3: return line.size() - 1;
            case 4: return line.get(line.size() - 1);
            default: return -1;
        }
    }

    long volume(int sample) {
        State state = new State();
        return up && state.has(sample) ? state.samples.get(sample - 1)[2] : -1;
    }

    int well(int well) {
        return up ? new State().in(well) : -1;
    }

    long total(int what, int which) {
        State state = new State();
        if (!up || what < 0 || what > 3 || what == 3 && !state.has(which)) {
            return -1;
        }
        BigInteger family = BigInteger.ZERO;
        for (int s = 1; s <= state.samples.size(); s++) {
            if (state.line(s).contains(which)) {
                family = family.add(BigInteger.valueOf(state.samples.get(s - 1)[2]));
            }
        }
        BigInteger[] totals = {state.liveVolume(), state.lost, state.liveVolume().add(state.lost), family};
        return totals[what].longValueExact();
    }

    int count(int what) {
        State state = new State();
        int live = (int) state.samples.stream().filter(one -> one[1] >= 0).count();
        int[] counts = {up ? 1 : 0, banks[0].length, written, failures, state.bank, state.generation, state.end,
            state.samples.size(), live, state.acts.size()};
        return what < 0 || what > 9 || what > 3 && !up ? -1 : counts[what];
    }
}
