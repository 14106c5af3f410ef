import java.util.ArrayList;
import java.util.List;

/** All that can be seen of a tracker from outside, to compare two of them. */
final class Look {
    private Look() {
    }

    /** The table, as the answers tell it: nothing of the banks. */
    static List<Long> table(Lab x) {
        List<Long> seen = new ArrayList<>();
        int samples = x.count(7);
        for (int s = 0; s <= samples + 1; s++) {
            for (int what = 0; what < 5; what++) {
                seen.add((long) x.sample(s, what));
            }
            seen.add(x.volume(s));
            seen.add(x.total(3, s));
        }
        for (int w = 0; w < 48; w++) {
            seen.add((long) x.well(w));
        }
        for (int what = 0; what < 3; what++) {
            seen.add(x.total(what, 0));
        }
        for (int what = 7; what < 10; what++) {
            seen.add((long) x.count(what));
        }
        return seen;
    }

    static List<Integer> bank(Lab x, int bank) {
        List<Integer> seen = new ArrayList<>();
        int bytes = x.count(1);
        for (int i = 0; i < bytes; i++) {
            seen.add(x.octet(bank, i));
        }
        return seen;
    }

    static List<Integer> banks(Lab x) {
        List<Integer> seen = bank(x, 0);
        seen.addAll(bank(x, 1));
        return seen;
    }

    static List<Long> all(Lab x) {
        List<Long> seen = table(x);
        for (int what = 0; what < 7; what++) {
            seen.add((long) x.count(what));
        }
        for (int octet : banks(x)) {
            seen.add((long) octet);
        }
        return seen;
    }
}
