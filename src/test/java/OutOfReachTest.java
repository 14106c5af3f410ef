/**
 * The document's boundaries that no run of calls can reach, each with the reason, and what of the reason can be asked.
 * Where another test comes as near as a run can, it is named.
 */
public final class OutOfReachTest {
    private static final Due DUE = new Due("out of reach");
    private static final int MOST_BYTES = 2048;
    private static final int HEAD = 9;
    private static final int MOST_CALLS = 512;

    public static void main(String[] args) {
        oneHundredAndTwentySamples();
        greatSampleNumbers();
        generationsThatWrap();
        generationsAlike();
        noRightHead();
        oddLengths();
        wrongChecks();
        recordsThatDoNotFitTheTable();
        volumesBeyondTheGreatest();
        emptyTableWithoutRoom();
        countsThatWrap();
        DUE.end();
    }

    /**
     * Promises 2 and 3, refusal 5: each SAMPLE of the table has a RECORD of its own in the bank in use (REGISTER 17
     * bytes, ALIQUOT and KEPT 19): 120 of them and the HEAD are 2049 bytes at the least. RegisterTest.mostSamples and
     * AliquotTest.mostSamples go as far as a run can. So it can't be asked either which of 5 and another one is told.
     */
    private static void oneHundredAndTwentySamples() {
        DUE.sentence("promises 2 and 3: 5 there are 120");
        int shortest = Math.min(Bytes.register(0, 1).length, Math.min(Bytes.aliquot(1, 0, 1).length,
            Bytes.kept(0, 0, 1).length));
        DUE.is("the shortest RECORD of a SAMPLE", shortest, 17);
        DUE.holds("120 of them are too many", HEAD + 120 * shortest > MOST_BYTES);
    }

    /** Promises 3, 4, 5 and 7: SAMPLE and PARENT have 2 bytes; there are fewer than 120, so the higher one is 0. */
    private static void greatSampleNumbers() {
        DUE.sentence("promises 3, 4, 5, 7: SAMPLE (2), PARENT (2): a number above 255");
        DUE.holds("fewer than 256", (MOST_BYTES - HEAD) / 17 < 256);
    }

    /**
     * Promise 7: GENERATION wraps round behind 2^32 - 1 and is read as a number below 0 from 2^31 on. A call makes one
     * GENERATION at the most: 513 is the last that can be. CompactTest.generations goes over 127, 128, 255 and 256.
     */
    private static void generationsThatWrap() {
        DUE.sentence("promise 7: GENERATION (4 bytes): 2^31, 2^32 - 1, 0");
        Lab x = new Lab(64);
        for (int i = 0; i < MOST_CALLS - 1; i++) {
            x.compact();
        }
        DUE.is("the last GENERATION that can be asked for", x.count(5), MOST_CALLS);
    }

    /** Promise 9: two right HEADs of one GENERATION: COMPACT alone writes them, each one more than the bank in use. */
    private static void generationsAlike() {
        DUE.sentence("promise 9: that of the greater GENERATION (neither is greater)");
        Lab x = new Lab(64);
        DUE.is("at first the other HEAD is all 0, and so not right", x.octet(1, 8), 0);
        for (int i = 0; i < 5; i++) {
            x.compact();
            DUE.is("the other bank's is one less", x.octet(1 - x.count(4), 3), x.count(5) - 1);
        }
    }

    /** Promise 9: no HEAD is right: COMPACT writes on the bank that is not in use, and nothing else on a HEAD. */
    private static void noRightHead() {
        DUE.sentence("promise 9: of the banks whose HEAD is right (there is none)");
        for (int n = 0; n <= 64 + 16 + 9; n++) {
            Lab x = new Lab(64);
            x.cut(n);
            x.compact();
            DUE.is("cut(" + n + "): bank 0 ends its HEAD with 165", x.octet(0, 8), 165);
        }
    }

    /**
     * Promise 9: a length of 1 to 7, and one that is not all in the bank. The lengths that are written are 8 to 19,
     * their higher byte is 0 and comes first: a cut behind it leaves a length of 0, a later one the whole length. An
     * ACT without room writes nothing. A length of 0 (RecoverTest.endOfTheBank), one of 8, the least (UndoTest), and
     * one that ends with the bank's last byte (RecoverTest.endOfTheBank) are asked.
     */
    private static void oddLengths() {
        DUE.sentence("promise 9: its length is 8 or more and all in the bank (1 to 7, or beyond it)");
        byte[][] records = {Bytes.register(0, 1), Bytes.aliquot(1, 0, 1), Bytes.move(1, 0), Bytes.discard(1),
            Bytes.undo(), Bytes.kept(0, 0, 1), Bytes.lost(1)};
        for (byte[] record : records) {
            DUE.is("the first byte", record[0], 0);
            DUE.is("the second byte", record[1], record.length);
            DUE.holds("8 to 19", record.length >= 8 && record.length <= 19);
        }
    }

    /**
     * Promise 9: a RECORD with a right 165 and a wrong CHECK: 165 is its last byte, nothing is written over a RECORD
     * but 0s, and those on all of a bank whose HEAD goes first. The other way round, CHECK right and 165 not yet there,
     * and both not yet there, is what PowerCuts asks of each ACT and CompactTest.cutShort of each HEAD. An old HEAD
     * under the 0s of a COMPACT has 165 and a wrong CHECK indeed, but no answer tells: its GENERATION is the lesser.
     */
    private static void wrongChecks() {
        DUE.sentence("promise 9: its CHECK and 165 right (165 right alone)");
        Lab x = new Lab(64);
        x.register(0, 5);
        x.compact();
        for (int n = 0; n <= 64; n++) {
            x.recover();
            x.cut(n);
            x.compact();
            DUE.is("0s come on the HEAD first", x.octet(0, 8), n > 8 ? 0 : 165);
            DUE.is("and then on RECORDS", x.octet(0, 25), n > 25 ? 0 : 165);
        }
    }

    /**
     * Promise 9: RECORDS that do not fit the table that is read (an UNDO with nothing to undo, a MOVE of no SAMPLE, an
     * unknown kind): an ACT that the table refuses is not written, and the table that is read is the one of that ACT.
     */
    private static void recordsThatDoNotFitTheTable() {
        DUE.sentence("promise 9: the table is what they make (from RECORDS that make none)");
        Lab x = new Lab(64);
        int[] refused = {x.undo(), x.move(1, 0), x.discard(1), x.aliquot(1, 0, 1), x.register(48, 1)};
        DUE.is("refused", refused[0] + refused[1] + refused[2] + refused[3] + refused[4], -7 - 2 - 2 - 2 - 2);
        DUE.is("not written", x.count(2), 0);
    }

    /** Promises 12 and 14: a VOLUME or total of 2^63 or more: only REGISTER adds, and refuses that (RegisterTest). */
    private static void volumesBeyondTheGreatest() {
        DUE.sentence("promises 12 and 14: 2^63");
        Lab x = new Lab(64);
        x.register(0, Long.MAX_VALUE);
        DUE.is("register(1, 1)", x.register(1, 1), -4);
    }

    /** Promise 7, refusal 6 of an empty table: HEAD and LOST are 25 bytes, the least bank has 64. */
    private static void emptyTableWithoutRoom() {
        DUE.sentence("promise 7: 6 the other bank has no room for all (with no SAMPLE)");
        DUE.holds("25 bytes", HEAD + Bytes.lost(0).length <= new Lab(Integer.MIN_VALUE).count(1));
    }

    /**
     * Promises 8 and 15: bytes written that wrap round, and a cut of 2^31 - 1 that comes: a call writes two times a
     * bank at the most, all 512 together 2^21. CutTest.greatNumbers and CountTest.bytesWritten go beyond 2^16.
     */
    private static void countsThatWrap() {
        DUE.sentence("promises 8 and 15: bytes written, beyond 2^31 - 1");
        DUE.holds("2^21", (long) MOST_CALLS * 2 * MOST_BYTES <= 1L << 21);
    }
}
