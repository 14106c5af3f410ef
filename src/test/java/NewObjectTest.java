/** Promise 1: a new object. */
public final class NewObjectTest {
    private static final Due DUE = new Due("promise 1");

    public static void main(String[] args) {
        allowedNumbers();
        nearerNumbers();
        atFirst();
        objectsAreApart();
        DUE.end();
    }

    private static void allowedNumbers() {
        DUE.sentence("Banks of so many bytes: 64 to 2048");
        int[] allowed = {64, 65, 100, 127, 128, 255, 256, 1024, 2047, 2048};
        for (int bytes : allowed) {
            banksHave(bytes, bytes);
        }
    }

    private static void nearerNumbers() {
        DUE.sentence("another number: the nearer one of these");
        int[] tooSmall = {63, 62, 1, 0, -1, -64, -2048, Integer.MIN_VALUE, Integer.MIN_VALUE + 64};
        for (int bytes : tooSmall) {
            banksHave(bytes, 64);
        }
        int[] tooLarge = {2049, 2050, 4096, 65536, 65536 + 100, Integer.MAX_VALUE};
        for (int bytes : tooLarge) {
            banksHave(bytes, 2048);
        }
    }

    private static void banksHave(int asked, int want) {
        Lab x = new Lab(asked);
        String made = "new SampleTracker(" + asked + ").";
        DUE.is(made + "count(1)", x.count(1), want);
        for (int bank = 0; bank < 2; bank++) {
            DUE.is(made + "octet(" + bank + ", last)", x.octet(bank, want - 1), 0);
            DUE.is(made + "octet(" + bank + ", behind the last)", x.octet(bank, want), -1);
        }
    }

    private static void atFirst() {
        DUE.sentence("At first bank 0 has GENERATION 1 and no RECORDS, bank 1 is all 0; written without counting");
        int[] sizes = {64, 65, 2047, 2048};
        for (int bytes : sizes) {
            Lab x = new Lab(bytes);
            Bytes.due(DUE, x, 0, Bytes.head(1));
            Bytes.due(DUE, x, 1);
            int[] counts = {1, bytes, 0, 0, 0, 1, 9, 0, 0, 0};
            for (int what = 0; what < counts.length; what++) {
                DUE.is("count(" + what + ")", x.count(what), counts[what]);
            }
            DUE.is("recover() of no RECORDS", x.recover(), 0);
            Bytes.due(DUE, x, 0, Bytes.head(1));
            Bytes.due(DUE, x, 1);
        }
        Lab written = new Lab(64);
        written.cut(17);
        DUE.is("the first HEAD takes nothing of a cut", written.register(0, 1), -1);
        DUE.is("count(2)", written.count(2), 17);
        DUE.sentence("NONE = -1");
        DUE.is("NONE", SampleTracker.NONE, -1);
    }

    private static void objectsAreApart() {
        DUE.sentence("A new object");
        SampleTracker one = new SampleTracker(64);
        SampleTracker other = new SampleTracker(64);
        one.register(0, 1);
        one.cut(0);
        one.discard(1);
        DUE.is("another object's count(0)", other.count(0), 1);
        DUE.is("another object's count(7)", other.count(7), 0);
        DUE.is("another object's octet(0, 10)", other.octet(0, 10), 0);
    }
}
