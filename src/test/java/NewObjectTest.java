/** Promise 1: a new object. */
public final class NewObjectTest {
    public static void main(String[] args) {
        Due due = new Due("promise 1");
        int[] asked = {64, 65, 100, 2047, 2048, 63, 0, -1, Integer.MIN_VALUE, 2049, Integer.MAX_VALUE};
        int[] want = {64, 65, 100, 2047, 2048, 64, 64, 64, 64, 2048, 2048};
        for (int i = 0; i < asked.length; i++) {
            SampleTracker x = new SampleTracker(asked[i]);
            String call = "new SampleTracker(" + asked[i] + ")";
            due.is(call + ".count(1)", x.count(1), want[i]);
            due.is(call + ".octet(0, last)", x.octet(0, want[i] - 1), 0);
            due.is(call + ".octet(1, last)", x.octet(1, want[i] - 1), 0);
            due.is(call + ".octet(0, behind)", x.octet(0, want[i]), -1);
            Bytes.due(due, x, 0, Bytes.head(1));
            Bytes.due(due, x, 1);
            int[] counts = {1, want[i], 0, 0, 0, 1, 9, 0, 0, 0};
            for (int what = 0; what < counts.length; what++) {
                due.is(call + ".count(" + what + ")", x.count(what), counts[what]);
            }
            due.is(call + ".recover()", x.recover(), 0);
        }
        SampleTracker one = new SampleTracker(64);
        SampleTracker other = new SampleTracker(64);
        one.register(0, 1);
        due.is("another object's count(7)", other.count(7), 0);
        due.is("another object's octet(0, 10)", other.octet(0, 10), 0);
        due.is("NONE", SampleTracker.NONE, -1);
        due.end();
    }
}
