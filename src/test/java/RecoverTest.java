import java.util.List;

/** Promise 9: recover. What it finds behind a cut of each ACT is asked by PowerCuts and CompactTest, too. */
public final class RecoverTest {
    private static final Due DUE = new Due("promise 9");
    private static final int[] LENGTHS = {17, 19, 11, 10, 8};

    public static void main(String[] args) {
        noRecords();
        withThePowerUp();
        behindEachByteOfEachAct();
        severalCuts();
        banksOfAnyAge();
        chosenBank();
        endOfTheBank();
        mostRecords();
        DUE.end();
    }

    private static Lab begun() {
        Lab x = new Lab(300);
        x.register(0, 1000);
        x.aliquot(1, 1, 400);
        x.compact();
        x.aliquot(2, 2, 100);
        x.register(3, 5);
        return x;
    }

    private static int act(Lab x, int kind) {
        switch (kind) {
            case 0: return x.register(40, 77);
            case 1: return x.aliquot(3, 40, 77);
            case 2: return x.move(3, 40);
            case 3: return x.discard(3);
            default: return x.undo();
        }
    }

    private static void noRecords() {
        DUE.sentence("how many RECORDS were read (none)");
        Lab x = new Lab(64);
        List<Long> all = Look.all(x);
        DUE.is("recover() of a new object", x.recover(), 0);
        DUE.holds("all is as it was", Look.all(x).equals(all));
        x.cut(16);
        DUE.is("register(0, 5) less its last byte", x.register(0, 5), -1);
        DUE.is("recover()", x.recover(), 0);
        DUE.is("count(6)", x.count(6), 9);
        DUE.is("count(7)", x.count(7), 0);
        Bytes.due(DUE, x, 0, Bytes.head(1));
    }

    private static void withThePowerUp() {
        DUE.sentence("(It may be called with the power up as well.)");
        Lab x = begun();
        List<Long> all = Look.all(x);
        DUE.is("recover()", x.recover(), 5);
        DUE.holds("all is as it was", Look.all(x).equals(all));
        DUE.is("recover() again", x.recover(), 5);
        DUE.holds("all is as it was", Look.all(x).equals(all));
        DUE.sentence("the table is what they make, from an empty one on");
        x.undo();
        x.undo();
        DUE.is("recover()", x.recover(), 7);
        DUE.is("count(7)", x.count(7), 2);
        DUE.is("volume(2)", x.volume(2), 400);
        DUE.is("count(9)", x.count(9), 0);
    }

    private static void behindEachByteOfEachAct() {
        DUE.sentence("as long as one is whole: its length is all in the bank, its CHECK and 165 right");
        for (int kind = 0; kind < LENGTHS.length; kind++) {
            for (int n = 0; n <= LENGTHS[kind] + 1; n++) {
                Lab cut = begun();
                Lab due = begun();
                int answer = n >= LENGTHS[kind] ? act(due, kind) : -1;
                cut.cut(n);
                DUE.is("kind " + kind + " cut " + n, act(cut, kind), n <= LENGTHS[kind] ? -1 : answer);
                DUE.is("recover()", cut.recover(), n >= LENGTHS[kind] ? 6 : 5);
                DUE.is("count(0)", cut.count(0), 1);
                DUE.holds("the table", Look.table(cut).equals(Look.table(due)));
                DUE.holds("the banks", Look.banks(cut).equals(Look.banks(due)));
                DUE.is("count(6)", cut.count(6), due.count(6));
                DUE.is("the same goes on", act(cut, kind), act(due, kind));
                DUE.holds("the banks", Look.banks(cut).equals(Look.banks(due)));
            }
        }
    }

    /** What a cut left is 0 again, so a shorter RECORD in its place has nothing of it behind it. */
    private static void severalCuts() {
        DUE.sentence("then all behind the last one becomes 0 (without counting)");
        Lab x = new Lab(100);
        x.register(0, 5);
        for (int n = 18; n >= 0; n--) {
            x.cut(n);
            DUE.is("aliquot on byte " + n, x.aliquot(1, 1, 5), -1);
            DUE.is("recover()", x.recover(), 1);
            Bytes.due(DUE, x, 0, Bytes.head(1), Bytes.register(0, 5));
        }
        DUE.is("count(2)", x.count(2), 17 + 18 * 19 / 2);
        DUE.is("count(3)", x.count(3), 19);
        DUE.is("undo()", x.undo(), 0);
        Bytes.due(DUE, x, 0, Bytes.head(1), Bytes.register(0, 5), Bytes.undo());
    }

    /** A COMPACT that was cut leaves the other bank as it is; the next one writes it anew. */
    private static void banksOfAnyAge() {
        DUE.sentence("of the banks whose HEAD is right that of the greater GENERATION is in use");
        Lab x = begun();
        x.cut(3);
        DUE.is("compact()", x.compact(), -1);
        DUE.is("the HEAD of GENERATION 1 is right still", x.recover(), 5);
        DUE.is("yet the greater one is in use", x.count(4), 1);
        DUE.is("count(5)", x.count(5), 2);
        x.cut(300 + 20);
        DUE.is("compact()", x.compact(), -1);
        x.recover();
        DUE.is("the other bank keeps what was written", x.octet(0, 10), 16);
        DUE.is("and no more", x.octet(0, 29), 0);
        DUE.is("octet(0, 26)", x.octet(0, 26), 19);
        DUE.is("count(4)", x.count(4), 1);
        DUE.is("compact()", x.compact(), 0);
        DUE.is("count(4)", x.count(4), 0);
        DUE.is("count(5)", x.count(5), 3);
        DUE.is("recover()", x.recover(), 5);
    }

    /** Both HEADs may be right, or one alone: the old one is cut byte by byte, the new one written byte by byte. */
    private static void chosenBank() {
        DUE.sentence("The bytes of a HEAD that is right: CHECK and 165 are so");
        Lab x = begun();
        for (int generation = 2; generation < 6; generation++) {
            for (int n = 0; n <= 18; n++) {
                int bytes = n <= 9 ? n : 300 + 16 + 4 * 19 + n - 10;
                x.cut(bytes);
                DUE.is("compact() cut " + bytes, x.compact(), -1);
                DUE.is("recover()", x.recover(), 5);
                DUE.is("count(4)", x.count(4), (generation + 1) % 2);
                DUE.is("count(5)", x.count(5), generation);
                DUE.is("count(7)", x.count(7), 4);
            }
            x.cut(300 + 16 + 4 * 19 + 9);
            DUE.is("compact() with its last byte", x.compact(), -1);
            DUE.is("recover()", x.recover(), 5);
            DUE.is("count(5)", x.count(5), generation + 1);
        }
    }

    private static void endOfTheBank() {
        DUE.sentence("its length is 8 or more and all in the bank");
        for (int free = 0; free <= 20; free++) {
            Lab x = Lab.withRoom(free, RecoverTest::fourActs);
            List<Long> all = Look.all(x);
            DUE.is(free + " bytes left: recover()", x.recover(), 4);
            DUE.holds("all is as it was", Look.all(x).equals(all));
            DUE.is("total(1, 0)", x.total(1, 0), 5);
        }
        for (int kind = 0; kind < LENGTHS.length; kind++) {
            for (int n = 0; n <= LENGTHS[kind]; n++) {
                Lab x = Lab.withRoom(LENGTHS[kind], RecoverTest::threeLive);
                x.cut(n);
                DUE.is("the last RECORD of a bank, kind " + kind + " cut " + n, act(x, kind), -1);
                DUE.is("recover()", x.recover(), n == LENGTHS[kind] ? 5 : 4);
                DUE.is("the last byte", x.octet(0, x.count(1) - 1), n == LENGTHS[kind] ? 165 : 0);
                DUE.is("count(6)", x.count(6), x.count(1) - (n == LENGTHS[kind] ? 0 : LENGTHS[kind]));
            }
        }
    }

    private static void fourActs(Lab x) {
        x.register(0, 5);
        x.aliquot(1, 1, 2);
        x.discard(1);
        x.discard(2);
    }

    private static void threeLive(Lab x) {
        x.register(0, 500);
        x.aliquot(1, 1, 200);
        x.register(2, 100);
        x.move(2, 5);
    }

    private static void mostRecords() {
        DUE.sentence("how many RECORDS were read");
        Lab x = new Lab(2048);
        int records = 0;
        for (int i = 0; x.count(6) + 19 <= 2048; i++) {
            records += i == 0 ? 1 : 2;
            DUE.is("an ACT", i == 0 ? x.register(0, 1) : x.move(1, 1 + i % 47), i == 0 ? 1 : 0);
            DUE.is("undo()", i == 0 ? 0 : x.undo(), i == 0 ? 0 : 1);
        }
        DUE.is("undo()", x.undo(), 0);
        records++;
        DUE.is("count(6)", x.count(6), 2048);
        DUE.is("recover()", x.recover(), records);
        DUE.is("count(7)", x.count(7), 0);
    }
}
