import java.util.ArrayList;
import java.util.List;
import java.util.function.Consumer;
import java.util.function.ToLongFunction;

/**
 * A tracker under test. The document promises nothing behind an object's 512th call: one that has had so many gives way
 * to a new one that is told the same acts, so that a test may ask as much as it likes.
 */
final class Lab {
    private static final int MOST_CALLS = 512;

    private final int bytes;
    private final List<ToLongFunction<SampleTracker>> acts = new ArrayList<>();
    private SampleTracker tracker;
    private int calls = 0;

    Lab(int bytes) {
        this.bytes = bytes;
        tracker = new SampleTracker(bytes);
    }

    /** One that has done this in its first bank and has so many bytes left behind its last RECORD. */
    static Lab withRoom(int free, Consumer<Lab> begin) {
        Lab large = new Lab(2048);
        begin.accept(large);
        Lab lab = new Lab(large.count(6) + free);
        begin.accept(lab);
        if (lab.count(1) - lab.count(6) != free) {
            throw new IllegalArgumentException("no bank of 64 to 2048 bytes has " + free + " left there");
        }
        return lab;
    }

    /** Takes the power away without a byte written. */
    Lab down() {
        cut(0);
        if (undo() != -1 && compact() != -1 && discard(1) != -1) {
            throw new IllegalStateException("no act here would write a byte");
        }
        return this;
    }

    int register(int well, long volume) {
        return (int) act(x -> x.register(well, volume));
    }

    int aliquot(int sample, int well, long volume) {
        return (int) act(x -> x.aliquot(sample, well, volume));
    }

    int move(int sample, int well) {
        return (int) act(x -> x.move(sample, well));
    }

    int discard(int sample) {
        return (int) act(x -> x.discard(sample));
    }

    int undo() {
        return (int) act(SampleTracker::undo);
    }

    int compact() {
        return (int) act(SampleTracker::compact);
    }

    int cut(int n) {
        return (int) act(x -> x.cut(n));
    }

    int recover() {
        return (int) act(SampleTracker::recover);
    }

    int octet(int bank, int i) {
        return (int) ask(x -> x.octet(bank, i));
    }

    int sample(int sample, int what) {
        return (int) ask(x -> x.sample(sample, what));
    }

    long volume(int sample) {
        return ask(x -> x.volume(sample));
    }

    int well(int well) {
        return (int) ask(x -> x.well(well));
    }

    long total(int what, int which) {
        return ask(x -> x.total(what, which));
    }

    int count(int what) {
        return (int) ask(x -> x.count(what));
    }

    private long act(ToLongFunction<SampleTracker> call) {
        long answer = ask(call);
        acts.add(call);
        return answer;
    }

    private long ask(ToLongFunction<SampleTracker> call) {
        if (calls == MOST_CALLS) {
            renew();
        }
        calls++;
        return call.applyAsLong(tracker);
    }

    private void renew() {
        if (acts.size() >= MOST_CALLS) {
            throw new IllegalStateException("the test itself makes more than 512 acts");
        }
        tracker = new SampleTracker(bytes);
        for (ToLongFunction<SampleTracker> act : acts) {
            act.applyAsLong(tracker);
        }
        calls = acts.size();
    }
}
