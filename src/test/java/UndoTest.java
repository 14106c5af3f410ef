import java.util.ArrayList;
import java.util.List;

/** Promise 6: undo. */
public final class UndoTest {
    private static final Due DUE = new Due("promise 6");

    public static void main(String[] args) {
        backToTheBeginning();
        numbersComeAgain();
        sinceCompact();
        refused();
        DUE.end();
    }

    private static void act(SampleTracker x, int i) {
        switch (i) {
            case 0: x.register(0, 100); break;
            case 1: x.aliquot(1, 1, 40); break;
            case 2: x.move(1, 5); break;
            case 3: x.aliquot(2, 0, 40); break;
            case 4: x.discard(1); break;
            case 5: x.register(5, 7); break;
            case 6: x.move(3, 47); break;
            case 7: x.discard(3); break;
            default: x.discard(2); break;
        }
    }

    private static void backToTheBeginning() {
        SampleTracker x = new SampleTracker(2048);
        List<List<Long>> before = new ArrayList<>();
        for (int i = 0; i < 9; i++) {
            before.add(Look.table(x));
            act(x, i);
        }
        for (int i = 8; i >= 0; i--) {
            int end = x.count(6);
            DUE.is("undo() of act " + i, x.undo(), i);
            DUE.is("an UNDO is 8 bytes", x.count(6), end + 8);
            DUE.holds("the table ahead of act " + i, Look.table(x).equals(before.get(i)));
            DUE.is("recover() behind undo", x.recover(), 9 + 9 - i);
            DUE.holds("and behind recover()", Look.table(x).equals(before.get(i)));
        }
        DUE.is("none is left", x.undo(), -7);
    }

    private static void numbersComeAgain() {
        SampleTracker x = new SampleTracker(200);
        x.register(0, 5);
        x.register(1, 6);
        DUE.is("undo()", x.undo(), 1);
        DUE.is("the number comes again", x.register(2, 7), 2);
        DUE.is("volume(2)", x.volume(2), 7);
        DUE.is("undo() does not undo an UNDO", x.undo(), 1);
        DUE.is("undo()", x.undo(), 0);
        DUE.is("undo()", x.undo(), -7);
        Bytes.due(DUE, x, 0, Bytes.head(1), Bytes.register(0, 5), Bytes.register(1, 6), Bytes.undo(),
            Bytes.register(2, 7), Bytes.undo(), Bytes.undo());
    }

    private static void sinceCompact() {
        SampleTracker x = new SampleTracker(200);
        x.register(0, 5);
        x.compact();
        DUE.is("nothing since COMPACT", x.undo(), -7);
        DUE.is("count(9)", x.count(9), 0);
        x.discard(1);
        x.register(1, 2);
        DUE.is("undo()", x.undo(), 1);
        x.recover();
        DUE.is("undo()", x.undo(), 0);
        DUE.is("well(0)", x.well(0), 1);
        DUE.is("volume(1)", x.volume(1), 5);
        DUE.is("total(1, 0)", x.total(1, 0), 0);
        DUE.is("undo()", x.undo(), -7);
        x.recover();
        DUE.is("nor behind recover()", x.undo(), -7);
    }

    private static void refused() {
        SampleTracker x = new SampleTracker(64);
        DUE.is("of a new object", x.undo(), -7);
        x.register(0, 5);
        x.register(1, 5);
        DUE.is("undo()", x.undo(), 1);
        DUE.is("undo()", x.undo(), 0);
        DUE.is("count(6)", x.count(6), 59);
        DUE.is("neither room nor an act: the lesser is told", x.undo(), -6);
        DUE.is("count(2)", x.count(2), 50);
        SampleTracker y = new SampleTracker(64);
        y.register(0, 5);
        y.register(1, 5);
        y.register(2, 5);
        DUE.is("an act but no room", y.undo(), -6);
        DUE.is("count(9)", y.count(9), 3);
        SampleTracker z = new SampleTracker(64);
        z.cut(0);
        DUE.is("nothing to undo writes no byte", z.undo(), -7);
        DUE.is("count(0)", z.count(0), 1);
        z.register(0, 1);
        DUE.is("down", z.undo(), -1);
    }
}
