import java.util.List;

/** Promise 8: cut. */
public final class CutTest {
    private static final Due DUE = new Due("promise 8");

    public static void main(String[] args) {
        answers();
        inPlace();
        belowZero();
        whileDown();
        aheadOfTheFirstByte();
        behindEachByte();
        greatNumbers();
        overSeveralActs();
        refusedActs();
        takenAway();
        DUE.end();
    }

    private static void answers() {
        DUE.sentence("The power fails behind n bytes more: 1; NONE if n is below 0");
        int[] allowed = {0, 1, 2, 64, 2048, 65536, Integer.MAX_VALUE};
        for (int n : allowed) {
            Lab x = new Lab(64);
            List<Long> all = Look.all(x);
            DUE.is("cut(" + n + ")", x.cut(n), 1);
            DUE.holds("cut(" + n + ") waits, nothing else changes", Look.all(x).equals(all));
        }
        int[] below = {-1, -2, -64, Integer.MIN_VALUE};
        for (int n : below) {
            DUE.is("cut(" + n + ")", new Lab(64).cut(n), -1);
        }
    }

    private static void inPlace() {
        DUE.sentence("(in place of what was told before)");
        Lab later = new Lab(64);
        later.cut(0);
        later.cut(18);
        DUE.is("18 in place of 0", later.register(0, 5), 1);
        Lab sooner = new Lab(64);
        sooner.cut(18);
        sooner.cut(3);
        DUE.is("3 in place of 18", sooner.register(0, 5), -1);
        DUE.is("count(2)", sooner.count(2), 3);
        Lab none = new Lab(64);
        none.cut(18);
        none.cut(0);
        DUE.is("0 in place of 18", none.register(0, 5), -1);
        DUE.is("count(2)", none.count(2), 0);
        Lab begun = new Lab(64);
        begun.cut(20);
        begun.register(0, 5);
        begun.cut(20);
        DUE.is("the 17 bytes before it do not count", begun.register(1, 5), 2);
        DUE.is("nor are 3 of the old ones left", begun.undo(), -1);
        DUE.is("count(2)", begun.count(2), 37);
    }

    private static void belowZero() {
        DUE.sentence("NONE, changing nothing, if n is below 0");
        Lab x = new Lab(64);
        x.cut(3);
        DUE.is("cut(-1)", x.cut(-1), -1);
        DUE.is("cut(MIN)", x.cut(Integer.MIN_VALUE), -1);
        DUE.is("cut(3) waits still", x.register(0, 5), -1);
        DUE.is("count(2)", x.count(2), 3);
        Lab none = new Lab(64);
        none.cut(-1);
        DUE.is("none waits", none.register(0, 5), 1);
        DUE.is("count(3)", none.count(3), 0);
    }

    private static void whileDown() {
        DUE.sentence("NONE, changing nothing, if it is down");
        int[] numbers = {0, 1, 5, -1, Integer.MAX_VALUE, Integer.MIN_VALUE};
        for (int n : numbers) {
            Lab x = new Lab(64);
            x.cut(4);
            x.register(0, 5);
            List<Long> all = Look.all(x);
            DUE.is("down: cut(" + n + ")", x.cut(n), -1);
            DUE.holds("nothing changes", Look.all(x).equals(all));
            DUE.is("recover()", x.recover(), 0);
            DUE.is("no cut waits", x.register(0, 5), 1);
            DUE.is("cut(" + n + ") with the power up", x.cut(n), n < 0 ? -1 : 1);
        }
    }

    private static void aheadOfTheFirstByte() {
        DUE.sentence("with n 0, ahead of the next byte");
        Lab x = new Lab(64);
        x.register(0, 5);
        x.cut(0);
        DUE.is("it is up till then", x.count(0), 1);
        DUE.is("and answers", x.volume(1), 5);
        DUE.is("count(3)", x.count(3), 0);
        DUE.is("undo()", x.undo(), -1);
        DUE.is("count(0)", x.count(0), 0);
        DUE.is("count(2)", x.count(2), 17);
        DUE.is("count(3)", x.count(3), 1);
        DUE.is("octet(0, 26)", x.octet(0, 26), 0);
        DUE.is("undo() again", x.undo(), -1);
        DUE.is("it fails once", x.count(3), 1);
    }

    private static void behindEachByte() {
        DUE.sentence("at once if the last of them has been written");
        for (int n = 0; n <= 18; n++) {
            Lab x = new Lab(64);
            x.cut(n);
            DUE.is("cut(" + n + ") register(7, 258)", x.register(7, 258), n <= 17 ? -1 : 1);
            DUE.is("count(0)", x.count(0), n <= 17 ? 0 : 1);
            DUE.is("count(2)", x.count(2), Math.min(n, 17));
            DUE.is("count(3)", x.count(3), n <= 17 ? 1 : 0);
            byte[] record = Bytes.register(7, 258);
            for (int i = 0; i < 17; i++) {
                DUE.is("octet(0, " + (9 + i) + ") cut " + n, x.octet(0, 9 + i), i < n ? record[i] & 255 : 0);
            }
        }
    }

    /** No run writes more than 512 * 4096 bytes: a cut beyond that never comes (OutOfReachTest). */
    private static void greatNumbers() {
        DUE.sentence("behind n bytes more");
        int each = 2048 + 16 + 9;
        int[] numbers = {65536, 40 * each + 1, Integer.MAX_VALUE};
        for (int n : numbers) {
            Lab x = new Lab(2048);
            x.cut(n);
            for (int i = 1; i <= 40; i++) {
                DUE.is("cut(" + n + ") compact()", x.compact(), i * each >= n ? -1 : 0);
            }
            DUE.is("count(2)", x.count(2), Math.min(n, 40 * each));
            DUE.is("count(3)", x.count(3), n < 40 * each ? 1 : 0);
        }
    }

    private static void overSeveralActs() {
        DUE.sentence("behind n bytes more that are written (each byte counts, in the order told)");
        Lab x = new Lab(200);
        x.cut(17 + 11 + 8 + 3);
        DUE.is("register(0, 5)", x.register(0, 5), 1);
        DUE.is("refused ones write nothing", x.move(1, 0), -3);
        DUE.is("move(1, 1)", x.move(1, 1), 0);
        DUE.is("undo()", x.undo(), 1);
        DUE.is("discard(1) on its 3rd byte", x.discard(1), -1);
        DUE.is("count(2)", x.count(2), 39);
        DUE.is("recover()", x.recover(), 3);
        DUE.is("well(0)", x.well(0), 1);
        DUE.is("octet(0, 46) is 0 again", x.octet(0, 46), 0);
        DUE.is("count(2) stays", x.count(2), 39);
        Lab exact = new Lab(200);
        exact.cut(17 + 11);
        DUE.is("register(0, 5)", exact.register(0, 5), 1);
        DUE.is("move(1, 1) on its last byte", exact.move(1, 1), -1);
        DUE.is("count(0)", exact.count(0), 0);
        DUE.is("recover()", exact.recover(), 2);
        DUE.is("well(1)", exact.well(1), 1);
    }

    private static void refusedActs() {
        DUE.sentence("REFUSED n: nothing is written");
        Lab x = Lab.withRoom(7, CutTest::full);
        x.cut(0);
        DUE.is("register(48, 1)", x.register(48, 1), -2);
        DUE.is("register(1, 1)", x.register(1, 1), -3);
        DUE.is("register(9, 0)", x.register(9, 0), -4);
        DUE.is("register(9, 1)", x.register(9, 1), -6);
        DUE.is("aliquot(9, 9, 1)", x.aliquot(9, 9, 1), -2);
        DUE.is("aliquot(1, 1, 1)", x.aliquot(1, 1, 1), -3);
        DUE.is("aliquot(1, 9, 2)", x.aliquot(1, 9, 2), -4);
        DUE.is("aliquot(1, 9, 1)", x.aliquot(1, 9, 1), -6);
        DUE.is("move(9, 9)", x.move(9, 9), -2);
        DUE.is("move(1, 1)", x.move(1, 1), -3);
        DUE.is("move(1, 9)", x.move(1, 9), -6);
        DUE.is("discard(9)", x.discard(9), -2);
        DUE.is("discard(1)", x.discard(1), -6);
        DUE.is("undo()", x.undo(), -6);
        DUE.is("compact()", x.compact(), -6);
        DUE.is("the power is up still", x.count(0), 1);
        DUE.is("count(3)", x.count(3), 0);
    }

    private static void full(Lab x) {
        x.register(0, 1);
        x.register(1, 1);
        x.register(2, 1);
    }

    private static void takenAway() {
        DUE.sentence("The power is up, no cut waits");
        Lab x = new Lab(64);
        x.cut(0);
        x.recover();
        DUE.is("recover() takes a waiting cut away", x.register(0, 5), 1);
        DUE.is("count(3)", x.count(3), 0);
        Lab later = new Lab(64);
        later.cut(20);
        later.register(0, 5);
        later.recover();
        DUE.is("one that has begun, too", later.undo(), 0);
        DUE.is("count(3)", later.count(3), 0);
        Lab fallen = new Lab(64);
        fallen.cut(5);
        fallen.register(0, 5);
        fallen.recover();
        DUE.is("one that has come does not come again", fallen.register(0, 5), 1);
        DUE.is("count(3)", fallen.count(3), 1);
        DUE.is("cut(5)", fallen.cut(5), 1);
        DUE.is("a new one does", fallen.undo(), -1);
        DUE.is("count(3)", fallen.count(3), 2);
    }
}
