import java.util.Random;

/** All promises: seeded runs of calls, each answer compared with the plainer program's. */
public final class RandomRunsTest {
    private static final int RUNS = 1500;
    private static final int[] ODD = {
        Integer.MIN_VALUE, -1000, -2, -1, 0, 1, 47, 48, 64, 120, 121, 255, 256, 2048, Integer.MAX_VALUE
    };

    private final Due due;
    private final int run;
    private final Random random;
    private final Lab x;
    private final PlainTracker plain;
    private final boolean great;

    private RandomRunsTest(Due due, int run) {
        this.due = due;
        this.run = run;
        random = new Random(run * 7919L + 13);
        int[] sizes = {64, 80, 100, 150, 256, 400, 700, 1200, 2048, 64 + random.nextInt(1985)};
        int bytes = sizes[random.nextInt(sizes.length)];
        x = new Lab(bytes);
        plain = new PlainTracker(bytes);
        great = random.nextInt(4) == 0;
    }

    public static void main(String[] args) {
        Due due = new Due("random runs");
        for (int run = 0; run < RUNS && !due.anyWrong(); run++) {
            new RandomRunsTest(due, run).go();
        }
        due.end();
    }

    private void go() {
        int asking = 10 + random.nextInt(60);
        int cutting = random.nextInt(3) * 3;
        for (int call = 0; call < 400; call++) {
            int dice = random.nextInt(100);
            if (dice < asking) {
                ask();
            } else if (dice < asking + cutting) {
                cut();
            } else {
                act();
            }
        }
        whole();
    }

    private int odd() {
        return ODD[random.nextInt(ODD.length)];
    }

    private int someSample() {
        return random.nextInt(30) == 0 ? odd() : 1 + random.nextInt(Math.max(1, x.count(7) + 1));
    }

    private int someWell() {
        return random.nextInt(30) == 0 ? odd() : random.nextInt(48);
    }

    private long someVolume() {
        switch (random.nextInt(great ? 8 : 30)) {
            case 0: return random.nextLong();
            case 1: return Long.MAX_VALUE - random.nextInt(3);
            case 2: return -random.nextInt(2);
            case 3: return Long.MAX_VALUE >>> random.nextInt(63);
            default: return 1 + random.nextInt(random.nextBoolean() ? 20 : 100000);
        }
    }

    private void told(String call, long got, long want) {
        due.is("run " + run + ": " + call, got, want);
    }

    private void cut() {
        int n = random.nextInt(10) == 0 ? random.nextInt(5000) : random.nextInt(10) == 0 ? odd() : random.nextInt(60);
        told("cut(" + n + ")", x.cut(n), plain.cut(n));
    }

    private void act() {
        int sample = someSample();
        int well = someWell();
        long volume = someVolume();
        if (x.count(0) == 0 && random.nextInt(3) > 0) {
            told("recover()", x.recover(), plain.recover());
            return;
        }
        switch (random.nextInt(16)) {
            case 0: case 1: case 2:
                told("register(" + well + ", " + volume + ")", x.register(well, volume), plain.register(well, volume));
                break;
            case 3: case 4: case 5:
                if (random.nextBoolean()) {
                    volume = Math.max(1, x.volume(sample) >> random.nextInt(3));
                }
                told("aliquot(" + sample + ", " + well + ", " + volume + ")",
                    x.aliquot(sample, well, volume), plain.aliquot(sample, well, volume));
                break;
            case 6: case 7: case 8:
                told("move(" + sample + ", " + well + ")", x.move(sample, well), plain.move(sample, well));
                break;
            case 9: case 10:
                told("discard(" + sample + ")", x.discard(sample), plain.discard(sample));
                break;
            case 11: case 12: case 13:
                told("undo()", x.undo(), plain.undo());
                break;
            case 14:
                told("compact()", x.compact(), plain.compact());
                break;
            default:
                told("recover()", x.recover(), plain.recover());
                break;
        }
    }

    private void ask() {
        int sample = someSample();
        int what = random.nextInt(40) == 0 ? odd() : random.nextInt(11) - 1;
        switch (random.nextInt(6)) {
            case 0:
                int bank = random.nextInt(20) == 0 ? odd() : random.nextInt(2);
                int i = random.nextInt(20) == 0 ? odd() : random.nextInt(x.count(1) + 1);
                told("octet(" + bank + ", " + i + ")", x.octet(bank, i), plain.octet(bank, i));
                break;
            case 1:
                told("sample(" + sample + ", " + what + ")", x.sample(sample, what), plain.sample(sample, what));
                break;
            case 2:
                told("volume(" + sample + ")", x.volume(sample), plain.volume(sample));
                break;
            case 3:
                int well = someWell();
                told("well(" + well + ")", x.well(well), plain.well(well));
                break;
            case 4:
                told("total(" + what + ", " + sample + ")", x.total(what, sample), plain.total(what, sample));
                break;
            default:
                told("count(" + what + ")", x.count(what), plain.count(what));
                break;
        }
    }

    private void whole() {
        for (int what = -1; what < 11; what++) {
            told("count(" + what + ")", x.count(what), plain.count(what));
        }
        for (int bank = 0; bank < 2; bank++) {
            for (int i = -1; i <= x.count(1); i++) {
                told("octet(" + bank + ", " + i + ")", x.octet(bank, i), plain.octet(bank, i));
            }
        }
        for (int s = 0; s <= Math.max(0, x.count(7)) + 1; s++) {
            for (int what = -1; what < 6; what++) {
                told("sample(" + s + ", " + what + ")", x.sample(s, what), plain.sample(s, what));
                told("total(" + what + ", " + s + ")", x.total(what, s), plain.total(what, s));
            }
            told("volume(" + s + ")", x.volume(s), plain.volume(s));
        }
        for (int w = -1; w < 49; w++) {
            told("well(" + w + ")", x.well(w), plain.well(w));
        }
    }
}
