/** Promise 13: well. */
public final class WellTest {
    private static final Due DUE = new Due("promise 13");

    public static void main(String[] args) {
        wells();
        allWells();
        noWells();
        down();
        DUE.end();
    }

    private static void wells() {
        DUE.sentence("The LIVE SAMPLE in a WELL; NONE");
        int[] due = {6, -1, -1, -1, -1, -1, -1, -1, -1, -1, 1, 2, -1, 4, 5};
        for (Lab x : Family.everywhere()) {
            for (int w = 0; w < 48; w++) {
                DUE.is("well(" + w + ")", x.well(w), w < due.length ? due[w] : -1);
            }
        }
        Lab x = new Lab(200);
        DUE.is("empty: well(0)", x.well(0), -1);
        x.register(0, 5);
        x.aliquot(1, 47, 5);
        DUE.is("one with VOLUME 0 is LIVE", x.well(0), 1);
        DUE.is("well(47)", x.well(47), 2);
        x.move(1, 1);
        DUE.is("moved away", x.well(0), -1);
        DUE.is("moved here", x.well(1), 1);
        x.discard(2);
        DUE.is("DISCARDED", x.well(47), -1);
        x.register(47, 5);
        DUE.is("the next one in it", x.well(47), 3);
        x.undo();
        DUE.is("it was undone", x.well(47), -1);
        x.undo();
        DUE.is("the DISCARD was undone", x.well(47), 2);
    }

    private static void allWells() {
        DUE.sentence("WELLS 0 to 47");
        Lab x = new Lab(2048);
        for (int w = 0; w < 48; w++) {
            x.register(47 - w, 1);
        }
        for (int round = 0; round < 3; round++) {
            for (int w = 0; w < 48; w++) {
                DUE.is("all are taken: well(" + w + ")", x.well(w), 48 - w);
            }
            DUE.is("well(48)", x.well(48), -1);
            DUE.is("well(-1)", x.well(-1), -1);
            DUE.is("round " + round, round == 0 ? x.recover() : x.compact(), round == 0 ? 48 : 0);
        }
    }

    private static void noWells() {
        DUE.sentence("NONE (no such WELL)");
        Lab x = Family.begun();
        int[] wells = {-1, 48, 49, 58, 255, 256, 266, 65536, Integer.MIN_VALUE, Integer.MAX_VALUE};
        for (int well : wells) {
            DUE.is("well(" + well + ")", x.well(well), -1);
        }
        x.compact();
        for (int well : wells) {
            DUE.is("behind compact(): well(" + well + ")", x.well(well), -1);
        }
        x.recover();
        for (int well : wells) {
            DUE.is("behind recover(): well(" + well + ")", x.well(well), -1);
        }
    }

    private static void down() {
        DUE.sentence("NONE as long as the power is down (so of all that follow)");
        Lab x = Family.begun();
        x.cut(0);
        DUE.is("a cut that waits hides nothing", x.well(0), 6);
        x.undo();
        for (int w = -1; w < 49; w++) {
            DUE.is("down: well(" + w + ")", x.well(w), -1);
        }
        x.recover();
        DUE.is("up again: well(0)", x.well(0), 6);
    }
}
