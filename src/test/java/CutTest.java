/** Promise 8: cut. */
public final class CutTest {
    private static final Due DUE = new Due("promise 8");

    public static void main(String[] args) {
        answers();
        behindEachByte();
        overSeveralActs();
        DUE.end();
    }

    private static void answers() {
        SampleTracker x = new SampleTracker(64);
        DUE.is("cut(-1)", x.cut(-1), -1);
        DUE.is("cut(MIN)", x.cut(Integer.MIN_VALUE), -1);
        DUE.is("cut(MAX)", x.cut(Integer.MAX_VALUE), 1);
        DUE.is("register(0, 5)", x.register(0, 5), 1);
        DUE.is("cut(0)", x.cut(0), 1);
        DUE.is("it waits for a byte", x.count(0), 1);
        DUE.is("cut(17) in its place", x.cut(17), 1);
        DUE.is("cut(-7) changes nothing", x.cut(-7), -1);
        DUE.is("move(1, 1)", x.move(1, 1), 0);
        DUE.is("cut(6) is reached on the 6th byte", x.register(2, 5), -1);
        DUE.is("count(2)", x.count(2), 34);
        DUE.is("down: cut(5)", x.cut(5), -1);
        DUE.is("down: cut(-5)", x.cut(-5), -1);
        DUE.is("count(3)", x.count(3), 1);
        DUE.is("recover()", x.recover(), 2);
        DUE.is("no cut waits", x.register(2, 5), 2);
        SampleTracker y = new SampleTracker(64);
        y.cut(0);
        y.recover();
        DUE.is("recover() takes a waiting cut away", y.register(0, 5), 1);
        DUE.is("count(3)", y.count(3), 0);
    }

    private static void behindEachByte() {
        for (int n = 0; n <= 18; n++) {
            SampleTracker x = new SampleTracker(64);
            x.cut(n);
            DUE.is("cut(" + n + ") register(7, 258)", x.register(7, 258), n <= 17 ? -1 : 1);
            DUE.is("count(0)", x.count(0), n <= 17 ? 0 : 1);
            DUE.is("count(2)", x.count(2), Math.min(n, 17));
            DUE.is("count(3)", x.count(3), n <= 17 ? 1 : 0);
            byte[] record = Bytes.register(7, 258);
            for (int i = 0; i < 17; i++) {
                DUE.is("octet(0, " + (9 + i) + ") cut " + n, x.octet(0, 9 + i), i < n ? record[i] & 255 : 0);
            }
        }
    }

    private static void overSeveralActs() {
        SampleTracker x = new SampleTracker(200);
        x.cut(17 + 11 + 8 + 3);
        DUE.is("register(0, 5)", x.register(0, 5), 1);
        DUE.is("refused ones write nothing", x.move(1, 0), -3);
        DUE.is("move(1, 1)", x.move(1, 1), 0);
        DUE.is("undo()", x.undo(), 1);
        DUE.is("discard(1) on its 3rd byte", x.discard(1), -1);
        DUE.is("count(2)", x.count(2), 39);
        DUE.is("recover()", x.recover(), 3);
        DUE.is("well(0)", x.well(0), 1);
        DUE.is("octet(0, 46) is 0 again", x.octet(0, 46), 0);
        DUE.is("count(2) stays", x.count(2), 39);
    }
}
