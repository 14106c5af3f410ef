import java.util.List;
import java.util.function.Supplier;
import java.util.function.ToIntFunction;

/** An ACT is answered as is due with the power up, refused with it down, and changes nothing where it is refused. */
final class Refusals {
    private Refusals() {
    }

    static void due(Due due, Supplier<Lab> begun, String call, ToIntFunction<Lab> act, int want) {
        Lab up = begun.get();
        answered(due, up, up.count(1) + " bytes: " + call, act, want);
        Lab down = begun.get().down();
        answered(due, down, up.count(1) + " bytes, down: " + call, act, -1);
        Lab untouched = begun.get();
        due.is(call + " leaves recover()", down.recover(), untouched.recover());
        due.holds(call + " leaves the table of recover()", Look.table(down).equals(Look.table(untouched)));
    }

    private static void answered(Due due, Lab x, String call, ToIntFunction<Lab> act, int want) {
        List<Long> all = Look.all(x);
        due.is(call, act.applyAsInt(x), want);
        if (want < 0) {
            due.holds(call + " changes nothing", Look.all(x).equals(all));
        }
    }
}
