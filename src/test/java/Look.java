import java.util.ArrayList;
import java.util.List;

/** All that can be seen of a tracker from outside, to compare two of them. */
final class Look {
    private Look() {
    }

    /** The table, as the answers tell it: nothing of the banks. */
    static List<Long> table(SampleTracker x) {
        List<Long> seen = new ArrayList<>();
        for (int s = 0; s <= x.count(7) + 1; s++) {
            for (int what = 0; what < 5; what++) {
                seen.add((long) x.sample(s, what));
            }
            seen.add(x.volume(s));
            seen.add(x.total(3, s));
        }
        for (int w = 0; w < 48; w++) {
            seen.add((long) x.well(w));
        }
        for (int what = 0; what < 3; what++) {
            seen.add(x.total(what, 0));
        }
        for (int what = 7; what < 10; what++) {
            seen.add((long) x.count(what));
        }
        return seen;
    }

    static List<Integer> bank(SampleTracker x, int bank) {
        List<Integer> seen = new ArrayList<>();
        for (int i = 0; i < x.count(1); i++) {
            seen.add(x.octet(bank, i));
        }
        return seen;
    }

    static List<Long> all(SampleTracker x) {
        List<Long> seen = table(x);
        for (int what = 0; what < 7; what++) {
            seen.add((long) x.count(what));
        }
        for (int bank = 0; bank < 2; bank++) {
            for (int octet : bank(x, bank)) {
                seen.add((long) octet);
            }
        }
        return seen;
    }
}
