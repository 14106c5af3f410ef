/** Promise 11: sample. */
public final class SampleTest {
    private static final Due DUE = new Due("promise 11");

    public static void main(String[] args) {
        families();
        withoutSample();
        otherWhat();
        longestLine();
        mostChildren();
        down();
        DUE.end();
    }

    private static void families() {
        DUE.sentence("what 0: its PARENT, 1: its WELL, 2: how many have it as PARENT, 3: how many steps, 4: that one");
        for (Lab x : Family.everywhere()) {
            for (int s = 1; s <= 6; s++) {
                for (int what = 0; what < 5; what++) {
                    DUE.is("sample(" + s + ", " + what + ")", x.sample(s, what), Family.DUE[s - 1][what]);
                }
            }
        }
        Lab x = new Lab(100);
        x.register(47, 1);
        x.register(0, 1);
        DUE.is("the last WELL", x.sample(1, 1), 47);
        DUE.is("the first WELL", x.sample(2, 1), 0);
        x.move(1, 46);
        DUE.is("behind a MOVE", x.sample(1, 1), 46);
        x.discard(2);
        DUE.is("(NONE: DISCARDED)", x.sample(2, 1), -1);
        DUE.is("its PARENT is told still", x.sample(2, 0), 0);
        DUE.is("its first one is told still", x.sample(2, 4), 2);
    }

    private static void withoutSample() {
        DUE.sentence("NONE without it");
        Lab empty = new Lab(64);
        Lab x = Family.begun();
        for (int what = 0; what < 5; what++) {
            DUE.is("empty: sample(0, " + what + ")", empty.sample(0, what), -1);
            DUE.is("empty: sample(1, " + what + ")", empty.sample(1, what), -1);
            int[] samples = {0, -1, 7, 8, 120, 121, 257, 65537, Integer.MIN_VALUE, Integer.MIN_VALUE + 1,
                Integer.MAX_VALUE};
            for (int sample : samples) {
                DUE.is("sample(" + sample + ", " + what + ")", x.sample(sample, what), -1);
            }
        }
        x.undo();
        x.undo();
        DUE.is("undone, it is not of the table", x.sample(6, 0), -1);
        DUE.is("the last one left", x.sample(5, 0), 0);
        DUE.is("nor is it of its PARENT", x.sample(4, 2), 0);
    }

    private static void otherWhat() {
        DUE.sentence("NONE for another what");
        Lab x = Family.begun();
        int[] whats = {-1, 5, 6, 256, Integer.MIN_VALUE, Integer.MAX_VALUE};
        for (int what : whats) {
            for (int s = 0; s <= 7; s++) {
                DUE.is("sample(" + s + ", " + what + ")", x.sample(s, what), -1);
            }
        }
    }

    /** 106 SAMPLES are what 2048 bytes have room for, each with a RECORD of 19. */
    private static void longestLine() {
        DUE.sentence("3: how many steps from PARENT to PARENT it is to one with PARENT 0, 4: that one");
        Lab x = Crowd.ofAliquots(true, 9);
        for (int round = 0; round < 2; round++) {
            for (int s = 1; s <= 106; s++) {
                DUE.is("sample(" + s + ", 0)", x.sample(s, 0), s - 1);
                DUE.is("sample(" + s + ", 2)", x.sample(s, 2), s < 106 ? 1 : 0);
                DUE.is("sample(" + s + ", 3)", x.sample(s, 3), s - 1);
                DUE.is("sample(" + s + ", 4)", x.sample(s, 4), 1);
            }
            DUE.is("sample(107, 3)", x.sample(107, 3), -1);
            x.recover();
        }
    }

    private static void mostChildren() {
        DUE.sentence("2: how many SAMPLES have it as PARENT");
        Lab x = Crowd.ofAliquots(false, 1000);
        for (int round = 0; round < 2; round++) {
            DUE.is("LIVE and DISCARDED ones count", x.sample(1, 2), 105);
            for (int s = 2; s <= 106; s++) {
                DUE.is("sample(" + s + ", 2)", x.sample(s, 2), 0);
                DUE.is("sample(" + s + ", 3)", x.sample(s, 3), 1);
                DUE.is("sample(" + s + ", 4)", x.sample(s, 4), 1);
            }
            x.recover();
        }
    }

    private static void down() {
        DUE.sentence("NONE as long as the power is down");
        Lab x = Family.begun();
        x.cut(0);
        DUE.is("a cut that waits hides nothing", x.sample(1, 0), 0);
        x.undo();
        for (int s = 0; s < 8; s++) {
            for (int what = -1; what < 6; what++) {
                DUE.is("down: sample(" + s + ", " + what + ")", x.sample(s, what), -1);
            }
        }
        x.recover();
        DUE.is("up again", x.sample(6, 4), 1);
        Lab last = Family.begun();
        last.cut(8);
        DUE.is("undo() on its last byte", last.undo(), -1);
        DUE.is("down", last.sample(1, 1), -1);
    }
}
