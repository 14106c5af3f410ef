import java.util.function.Supplier;
import java.util.function.ToIntFunction;

/** The power fails ahead of the first byte of an ACT's RECORD, between any two, behind the last one, and later. */
final class PowerCuts {
    private final Due due;
    private final Supplier<Lab> begun;
    private final ToIntFunction<Lab> act;
    private final int length;
    private final Lab before;
    private final Lab behind;
    private final int answer;

    private PowerCuts(Due due, Supplier<Lab> begun, ToIntFunction<Lab> act, int length) {
        this.due = due;
        this.begun = begun;
        this.act = act;
        this.length = length;
        before = begun.get();
        behind = begun.get();
        answer = act.applyAsInt(behind);
    }

    static void ofRecord(Due due, Supplier<Lab> begun, ToIntFunction<Lab> act, int length) {
        PowerCuts cuts = new PowerCuts(due, begun, act, length);
        due.sentence("behind n bytes more the power fails: at once, or, with n 0, ahead of the next byte");
        due.is("bytes of the RECORD", cuts.behind.count(2) - cuts.before.count(2), length);
        for (int n = 0; n <= length; n++) {
            cuts.cutWithin(n);
        }
        cuts.cutLater();
    }

    private void cutWithin(int n) {
        Lab x = begun.get();
        String when = "cut(" + n + "): ";
        due.is(when, x.cut(n), 1);
        due.is(when + "count(0) till a byte is written", x.count(0), 1);
        due.is(when + "the ACT under way", act.applyAsInt(x), -1);
        whileDown(x, when, n);
        boolean whole = n == length;
        due.is(when + "recover()", x.recover(), before.recover() + (whole ? 1 : 0));
        sameAs(x, whole ? behind : before, when + "behind recover()");
        due.is(when + "recover() counts no byte", x.count(2), before.count(2) + n);
        if (!whole) {
            due.is(when + "no cut waits, the ACT", act.applyAsInt(x), answer);
            sameAs(x, behind, when + "the ACT done anew");
        }
    }

    private void whileDown(Lab x, String when, int n) {
        for (int again = 0; again < 2; again++) {
            due.is(when + "count(0)", x.count(0), 0);
            due.is(when + "count(2)", x.count(2), before.count(2) + n);
            due.is(when + "count(3)", x.count(3), before.count(3) + 1);
            int end = before.count(6);
            for (int i = 0; i < length; i++) {
                int want = i < n ? behind.octet(before.count(4), end + i) : 0;
                due.is(when + "byte " + i + " of the RECORD", x.octet(before.count(4), end + i), want);
            }
            due.is(when + "nothing is written till recover()", act.applyAsInt(x), -1);
        }
    }

    private void cutLater() {
        Lab x = begun.get();
        x.cut(length + 1);
        due.is("cut behind one byte more: the ACT", act.applyAsInt(x), answer);
        due.is("count(0)", x.count(0), 1);
        due.is("count(3)", x.count(3), before.count(3));
        sameAs(x, behind, "a cut that waits");
        due.is("the next ACT's first byte", x.undo() == -1 || x.compact() == -1 ? -1 : 0, -1);
        due.is("count(2)", x.count(2), behind.count(2) + 1);
        due.is("count(3)", x.count(3), before.count(3) + 1);
    }

    private void sameAs(Lab x, Lab want, String when) {
        due.holds(when + ": the table", Look.table(x).equals(Look.table(want)));
        due.holds(when + ": the banks", Look.banks(x).equals(Look.banks(want)));
        for (int what = 4; what < 7; what++) {
            due.is(when + ": count(" + what + ")", x.count(what), want.count(what));
        }
    }
}
