/** Promise 9. */
public final class OctetTest {
    public static void main(String[] args) {
        MapText x = Check.withText("M 1 2 80\nF 1 1 1 79 0\nF 2 2 1 2 0");
        Check.due("nothing edited yet", Check.octet(x, 0), 1000);
        x.fill(1, 1, 9);
        Check.due("octet(0)", Check.octet(x, 0), '9');
        Check.due("octet(78)", Check.octet(x, 78), 32);
        int[] none = {79, 80, -1, Integer.MAX_VALUE, Integer.MIN_VALUE};
        for (int i : none) {
            Check.due("octet(" + i + ")", Check.octet(x, i), 1000);
        }
        x.fill(1, 2, 45);
        Check.due("octet(0)", Check.octet(x, 0), '4');
        Check.due("octet(1)", Check.octet(x, 1), '5');
        Check.due("octet(2) of a shorter one", Check.octet(x, 2), 1000);
        x.fill(1, 3, 1);
        Check.read(x, "M 2 1 1");
        Check.due("octet(1) stays", Check.octet(x, 1), '5');
        Check.due("octet(2)", Check.octet(x, 2), 1000);
        Check.end();
    }
}
