import java.util.List;

/** Promise 9: recover. */
public final class RecoverTest {
    private static final Due DUE = new Due("promise 9");
    private static final int[] LENGTHS = {17, 19, 11, 10, 8};

    public static void main(String[] args) {
        withThePowerUp();
        behindEachByteOfEachAct();
        banksOfAnyAge();
        chosenBank();
        fullBank();
        DUE.end();
    }

    private static SampleTracker begun() {
        SampleTracker x = new SampleTracker(300);
        x.register(0, 1000);
        x.aliquot(1, 1, 400);
        x.compact();
        x.aliquot(2, 2, 100);
        x.register(3, 5);
        return x;
    }

    private static int act(SampleTracker x, int kind) {
        switch (kind) {
            case 0: return x.register(40, 77);
            case 1: return x.aliquot(3, 40, 77);
            case 2: return x.move(3, 40);
            case 3: return x.discard(3);
            default: return x.undo();
        }
    }

    private static void withThePowerUp() {
        SampleTracker x = begun();
        List<Long> all = Look.all(x);
        DUE.is("recover()", x.recover(), 5);
        DUE.holds("all is as it was", Look.all(x).equals(all));
        DUE.is("recover() again", x.recover(), 5);
        DUE.holds("all is as it was", Look.all(x).equals(all));
    }

    private static void behindEachByteOfEachAct() {
        for (int kind = 0; kind < LENGTHS.length; kind++) {
            for (int n = 0; n <= LENGTHS[kind] + 1; n++) {
                SampleTracker cut = begun();
                SampleTracker due = begun();
                int answer = n >= LENGTHS[kind] ? act(due, kind) : -1;
                cut.cut(n);
                DUE.is("kind " + kind + " cut " + n, act(cut, kind), n <= LENGTHS[kind] ? -1 : answer);
                DUE.is("recover()", cut.recover(), n >= LENGTHS[kind] ? 6 : 5);
                DUE.is("count(0)", cut.count(0), 1);
                DUE.holds("the table", Look.table(cut).equals(Look.table(due)));
                DUE.holds("bank 0", Look.bank(cut, 0).equals(Look.bank(due, 0)));
                DUE.holds("bank 1", Look.bank(cut, 1).equals(Look.bank(due, 1)));
                DUE.is("count(6)", cut.count(6), due.count(6));
                DUE.is("the same goes on", act(cut, kind), act(due, kind));
                DUE.holds("bank 1", Look.bank(cut, 1).equals(Look.bank(due, 1)));
            }
        }
    }

    /** A COMPACT that was cut leaves the other bank as it is; the next one writes it anew. */
    private static void banksOfAnyAge() {
        SampleTracker x = begun();
        x.cut(3);
        DUE.is("compact()", x.compact(), -1);
        DUE.is("the HEAD of GENERATION 1 is right still", x.recover(), 5);
        DUE.is("yet the greater one is in use", x.count(4), 1);
        DUE.is("count(5)", x.count(5), 2);
        x.cut(300 + 20);
        DUE.is("compact()", x.compact(), -1);
        x.recover();
        DUE.is("the other bank keeps what was written", x.octet(0, 10), 16);
        DUE.is("and no more", x.octet(0, 29), 0);
        DUE.is("octet(0, 26)", x.octet(0, 26), 19);
        DUE.is("count(4)", x.count(4), 1);
        DUE.is("compact()", x.compact(), 0);
        DUE.is("count(4)", x.count(4), 0);
        DUE.is("count(5)", x.count(5), 3);
        DUE.is("recover()", x.recover(), 5);
    }

    /** Both HEADs may be right, or one alone: the greater GENERATION of the right ones is in use. */
    private static void chosenBank() {
        SampleTracker x = begun();
        for (int generation = 2; generation < 8; generation++) {
            for (int n = 0; n <= 9; n++) {
                x.cut(n);
                DUE.is("compact() cut " + n, x.compact(), -1);
                DUE.is("recover()", x.recover(), 5);
                DUE.is("count(4)", x.count(4), (generation + 1) % 2);
                DUE.is("count(5)", x.count(5), generation);
                DUE.is("count(7)", x.count(7), 4);
            }
            DUE.is("compact()", x.compact(), 0);
        }
    }

    private static void fullBank() {
        SampleTracker x = new SampleTracker(65);
        x.register(0, 5);
        x.aliquot(1, 1, 2);
        x.discard(1);
        DUE.is("move is 11", x.move(2, 3), -6);
        DUE.is("discard(2)", x.discard(2), 0);
        DUE.is("count(6)", x.count(6), 65);
        DUE.is("a RECORD that ends with the bank", x.recover(), 4);
        DUE.is("count(8)", x.count(8), 0);
        DUE.is("total(1, 0)", x.total(1, 0), 5);
    }
}
