/** Promise 14: total. */
public final class TotalTest {
    private static final Due DUE = new Due("promise 14");
    private static final long MAX = Long.MAX_VALUE;

    public static void main(String[] args) {
        empty();
        totals();
        families();
        withoutSample();
        otherWhat();
        greatest();
        longestLine();
        down();
        DUE.end();
    }

    private static void empty() {
        DUE.sentence("What 0: LIVE VOLUME, 1: DISCARDED VOLUME, 2: both (of an empty table)");
        Lab x = new Lab(64);
        for (int what = 0; what < 3; what++) {
            DUE.is("total(" + what + ", 0)", x.total(what, 0), 0);
            DUE.is("total(" + what + ", 1)", x.total(what, 1), 0);
        }
        DUE.is("total(3, 0)", x.total(3, 0), -1);
        DUE.is("total(3, 1)", x.total(3, 1), -1);
    }

    private static void totals() {
        DUE.sentence("What 0: LIVE VOLUME, 1: DISCARDED VOLUME, 2: both");
        int[] whiches = {0, 1, 3, -1, 7, 99, Integer.MIN_VALUE, Integer.MAX_VALUE};
        for (Lab x : Family.everywhere()) {
            for (int which : whiches) {
                DUE.is("total(0, " + which + ")", x.total(0, which), 99);
                DUE.is("total(1, " + which + ")", x.total(1, which), 10);
                DUE.is("total(2, " + which + ")", x.total(2, which), 109);
            }
        }
        Lab x = Family.begun();
        x.undo();
        DUE.is("the DISCARD undone: total(0, 0)", x.total(0, 0), 109);
        DUE.is("the DISCARD undone: total(1, 0)", x.total(1, 0), 0);
        for (int s = 1; s <= 6; s++) {
            x.discard(s);
        }
        DUE.is("all DISCARDED: total(0, 0)", x.total(0, 0), 0);
        DUE.is("all DISCARDED: total(1, 0)", x.total(1, 0), 109);
        DUE.is("all DISCARDED: total(2, 0)", x.total(2, 0), 109);
        DUE.is("all DISCARDED: total(3, 1)", x.total(3, 1), 0);
    }

    private static void families() {
        DUE.sentence("3: VOLUME of SAMPLE which and of all that have it as PARENT, PARENT's PARENT, and so on");
        for (Lab x : Family.everywhere()) {
            for (int s = 1; s <= 6; s++) {
                DUE.is("total(3, " + s + ")", x.total(3, s), Family.DUE[s - 1][6]);
            }
        }
        Lab x = Family.begun();
        DUE.is("a greater family", x.total(3, 1), 90);
        DUE.is("leaves nothing for a lesser one", x.total(3, 4), 20);
        DUE.is("nor for another", x.total(3, 5), 9);
    }

    private static void withoutSample() {
        DUE.sentence("NONE without it");
        Lab x = Family.begun();
        int[] none = {0, -1, 7, 8, 120, 121, 257, 65537, Integer.MIN_VALUE, Integer.MIN_VALUE + 1, Integer.MAX_VALUE};
        for (int which : none) {
            DUE.is("total(3, " + which + ")", x.total(3, which), -1);
        }
        x.undo();
        x.undo();
        DUE.is("undone: total(3, 6)", x.total(3, 6), -1);
        DUE.is("its PARENT has it again", x.total(3, 4), 20);
    }

    private static void otherWhat() {
        DUE.sentence("NONE for another what");
        Lab x = Family.begun();
        int[] whats = {-1, 4, 5, 256, Integer.MIN_VALUE, Integer.MAX_VALUE};
        for (int what : whats) {
            for (int which = 0; which <= 7; which++) {
                DUE.is("total(" + what + ", " + which + ")", x.total(what, which), -1);
            }
        }
    }

    /** 2^63 - 1 is the greatest of each: REGISTER refuses what would go beyond it. */
    private static void greatest() {
        DUE.sentence("What 0: LIVE VOLUME, 1: DISCARDED VOLUME, 2: both (the greatest)");
        Lab x = new Lab(300);
        x.register(0, MAX);
        DUE.is("total(0, 0)", x.total(0, 0), MAX);
        DUE.is("total(2, 0)", x.total(2, 0), MAX);
        DUE.is("total(3, 1)", x.total(3, 1), MAX);
        x.aliquot(1, 1, MAX - 1);
        DUE.is("total(3, 1)", x.total(3, 1), MAX);
        DUE.is("total(3, 2)", x.total(3, 2), MAX - 1);
        x.discard(2);
        for (int round = 0; round < 3; round++) {
            DUE.is("total(0, 0)", x.total(0, 0), 1);
            DUE.is("total(1, 0)", x.total(1, 0), MAX - 1);
            DUE.is("total(2, 0)", x.total(2, 0), MAX);
            DUE.is("total(3, 1)", x.total(3, 1), 1);
            DUE.is("total(3, 2)", x.total(3, 2), 0);
            DUE.is("round " + round, round == 0 ? x.compact() : x.recover(), round == 0 ? 0 : 3);
        }
        x.discard(1);
        DUE.is("all DISCARDED", x.total(1, 0), MAX);
        DUE.is("total(2, 0)", x.total(2, 0), MAX);
    }

    private static void longestLine() {
        DUE.sentence("of all that have it as PARENT, PARENT's PARENT, and so on");
        Lab line = Crowd.ofAliquots(true, 9);
        for (int s = 1; s <= 106; s++) {
            DUE.is("a line: total(3, " + s + ")", line.total(3, s), 9);
        }
        DUE.is("total(3, 107)", line.total(3, 107), -1);
        Lab wide = Crowd.ofAliquots(false, 1000);
        DUE.is("105 of one PARENT, the last one LIVE", wide.total(3, 1), 1000 - 104);
        DUE.is("total(3, 106)", wide.total(3, 106), 1);
        DUE.is("total(1, 0)", wide.total(1, 0), 104);
    }

    private static void down() {
        DUE.sentence("NONE as long as the power is down (so of all that follow)");
        Lab x = Family.begun();
        x.cut(0);
        DUE.is("a cut that waits hides nothing", x.total(2, 0), 109);
        x.discard(1);
        for (int what = -1; what < 5; what++) {
            DUE.is("down: total(" + what + ", 1)", x.total(what, 1), -1);
        }
        x.recover();
        DUE.is("up again", x.total(2, 0), 109);
    }
}
