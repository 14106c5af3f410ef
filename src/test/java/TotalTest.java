/** Promise 14: total. */
public final class TotalTest {
    private static final Due DUE = new Due("promise 14");

    public static void main(String[] args) {
        SampleTracker x = new SampleTracker(2048);
        for (int what = 0; what < 3; what++) {
            DUE.is("of a new object: total(" + what + ", 0)", x.total(what, 0), 0);
        }
        DUE.is("of a new object: total(3, 0)", x.total(3, 0), -1);
        DUE.is("of a new object: total(3, 1)", x.total(3, 1), -1);
        x.register(0, 1000);
        x.aliquot(1, 1, 100);
        x.register(2, 50);
        x.aliquot(2, 3, 10);
        x.aliquot(3, 4, 20);
        x.aliquot(4, 5, 3);
        x.discard(2);
        for (int round = 0; round < 3; round++) {
            totals(x);
            if (round == 0) {
                x.compact();
            } else {
                x.recover();
            }
        }
        great();
        x.cut(0);
        x.discard(1);
        for (int what = -1; what < 5; what++) {
            DUE.is("down: total(" + what + ", 1)", x.total(what, 1), -1);
        }
        DUE.end();
    }

    private static void totals(SampleTracker x) {
        int[] whiches = {0, 1, -1, 99, Integer.MIN_VALUE, Integer.MAX_VALUE};
        for (int which : whiches) {
            DUE.is("total(0, " + which + ")", x.total(0, which), 960);
            DUE.is("total(1, " + which + ")", x.total(1, which), 90);
            DUE.is("total(2, " + which + ")", x.total(2, which), 1050);
            DUE.is("total(-1, " + which + ")", x.total(-1, which), -1);
            DUE.is("total(4, " + which + ")", x.total(4, which), -1);
        }
        long[] families = {910, 10, 50, 10, 20, 3};
        for (int s = 1; s <= 6; s++) {
            DUE.is("total(3, " + s + ")", x.total(3, s), families[s - 1]);
        }
        int[] none = {0, -1, 7, 120, 121, Integer.MIN_VALUE, Integer.MAX_VALUE};
        for (int which : none) {
            DUE.is("total(3, " + which + ")", x.total(3, which), -1);
        }
        DUE.is("total(MIN, 1)", x.total(Integer.MIN_VALUE, 1), -1);
        DUE.is("total(MAX, 1)", x.total(Integer.MAX_VALUE, 1), -1);
    }

    private static void great() {
        SampleTracker x = new SampleTracker(300);
        x.register(0, Long.MAX_VALUE);
        x.aliquot(1, 1, Long.MAX_VALUE - 1);
        x.discard(2);
        DUE.is("total(0, 0)", x.total(0, 0), 1);
        DUE.is("total(1, 0)", x.total(1, 0), Long.MAX_VALUE - 1);
        DUE.is("total(2, 0)", x.total(2, 0), Long.MAX_VALUE);
        DUE.is("total(3, 1)", x.total(3, 1), 1);
        DUE.is("total(3, 2)", x.total(3, 2), 0);
        x.compact();
        x.recover();
        DUE.is("total(1, 0)", x.total(1, 0), Long.MAX_VALUE - 1);
        DUE.is("register(2, 1)", x.register(2, 1), -4);
    }
}
