/** Promise 10: octet. */
public final class OctetTest {
    public static void main(String[] args) {
        Due due = new Due("promise 10");
        SampleTracker x = new SampleTracker(64);
        x.register(0, Long.MAX_VALUE);
        Bytes.due(due, x, 0, Bytes.head(1), Bytes.register(0, Long.MAX_VALUE));
        due.is("octet(0, 13)", x.octet(0, 13), 127);
        due.is("bytes above 127 are not below 0", x.octet(0, 14), 255);
        int[] places = {-1, 64, 65, 2048, Integer.MIN_VALUE, Integer.MAX_VALUE};
        for (int place : places) {
            due.is("octet(0, " + place + ")", x.octet(0, place), -1);
            due.is("octet(1, " + place + ")", x.octet(1, place), -1);
        }
        int[] banks = {-1, 2, 3, Integer.MIN_VALUE, Integer.MAX_VALUE};
        for (int bank : banks) {
            due.is("octet(" + bank + ", 0)", x.octet(bank, 0), -1);
        }
        due.is("octet(0, 63)", x.octet(0, 63), 0);
        x.cut(2);
        x.discard(1);
        due.is("told with the power down too", x.octet(0, 8), 165);
        due.is("octet(0, 27)", x.octet(0, 27), 10);
        due.is("octet(0, 28)", x.octet(0, 28), 0);
        due.is("octet(1, 63)", x.octet(1, 63), 0);
        due.is("octet(2, 0)", x.octet(2, 0), -1);
        due.end();
    }
}
