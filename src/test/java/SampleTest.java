/** Promises 11, 12 and 13: sample, volume, well. */
public final class SampleTest {
    private static final Due DUE = new Due("promises 11 to 13");

    public static void main(String[] args) {
        families();
        without();
        down();
        DUE.end();
    }

    /** 1 has 2 and 3, 3 has 4, 4 has 6; 5 came by itself. */
    private static SampleTracker family() {
        SampleTracker x = new SampleTracker(400);
        x.register(10, 100);
        x.aliquot(1, 11, 30);
        x.aliquot(1, 12, 30);
        x.aliquot(3, 13, 20);
        x.register(14, 9);
        x.aliquot(4, 0, 5);
        x.discard(3);
        return x;
    }

    private static void families() {
        int[][] due = {
            {0, 10, 2, 0, 1, 40}, {1, 11, 0, 1, 1, 30}, {1, -1, 1, 1, 1, 0},
            {3, 13, 1, 2, 1, 15}, {0, 14, 0, 0, 5, 9}, {4, 0, 0, 3, 1, 5}
        };
        SampleTracker x = family();
        for (int round = 0; round < 3; round++) {
            for (int s = 1; s <= 6; s++) {
                for (int what = 0; what < 5; what++) {
                    DUE.is("sample(" + s + ", " + what + ")", x.sample(s, what), due[s - 1][what]);
                }
                DUE.is("volume(" + s + ")", x.volume(s), due[s - 1][5]);
                if (due[s - 1][1] >= 0) {
                    DUE.is("well of " + s, x.well(due[s - 1][1]), s);
                }
            }
            DUE.is("well(12)", x.well(12), -1);
            if (round == 0) {
                x.compact();
            } else {
                x.recover();
            }
        }
        x = new SampleTracker(2048);
        x.register(0, 47);
        for (int s = 1; s < 48; s++) {
            DUE.is("aliquot", x.aliquot(s, s, 48 - s), s + 1);
            DUE.is("a long line", x.sample(s + 1, 3), s);
            DUE.is("its first one", x.sample(s + 1, 4), 1);
        }
    }

    private static void without() {
        SampleTracker x = family();
        int[] whats = {-1, 5, Integer.MIN_VALUE, Integer.MAX_VALUE};
        for (int what : whats) {
            DUE.is("sample(1, " + what + ")", x.sample(1, what), -1);
        }
        int[] samples = {0, -1, 7, 120, 121, Integer.MIN_VALUE, Integer.MAX_VALUE};
        for (int sample : samples) {
            for (int what = 0; what < 5; what++) {
                DUE.is("sample(" + sample + ", " + what + ")", x.sample(sample, what), -1);
            }
            DUE.is("volume(" + sample + ")", x.volume(sample), -1);
        }
        int[] wells = {-1, 1, 47, 48, 255, Integer.MIN_VALUE, Integer.MAX_VALUE};
        for (int well : wells) {
            DUE.is("well(" + well + ")", x.well(well), -1);
        }
        x.undo();
        x.undo();
        DUE.is("undone, it is not of the table", x.sample(6, 0), -1);
        DUE.is("volume(6)", x.volume(6), -1);
        DUE.is("sample(4, 2)", x.sample(4, 2), 0);
    }

    private static void down() {
        SampleTracker x = family();
        x.cut(0);
        DUE.is("a cut that waits hides nothing", x.sample(1, 0), 0);
        x.undo();
        for (int s = 0; s < 8; s++) {
            for (int what = 0; what < 5; what++) {
                DUE.is("down: sample(" + s + ", " + what + ")", x.sample(s, what), -1);
            }
            DUE.is("down: volume(" + s + ")", x.volume(s), -1);
        }
        for (int w = 0; w < 48; w++) {
            DUE.is("down: well(" + w + ")", x.well(w), -1);
        }
        x.recover();
        DUE.is("up again", x.sample(6, 4), 1);
        DUE.is("volume(5)", x.volume(5), 9);
        DUE.is("well(0)", x.well(0), 6);
    }
}
