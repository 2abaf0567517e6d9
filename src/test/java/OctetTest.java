/** Promise 9. */
public final class OctetTest {
    public static void main(String[] args) {
        nothingEditedYet();
        everyByte();
        latestOne();
        staysBehindRefusedCalls();
        Check.end();
    }

    private static final int[] FAR = {-1, -2, 79, 80, 81, 3000, Integer.MAX_VALUE, Integer.MIN_VALUE};

    private static void nothingEditedYet() {
        Run x = new Run();
        Run y = Check.withText("M 1 2 80\nF 1 1 1 79 0");
        for (int i = -2; i <= 81; i++) {
            Check.due("octet(" + i + ") of a new object", x.octet(i), Run.THROWS);
            Check.due("octet(" + i + ") ahead of fill()", y.octet(i), Run.THROWS);
        }
        Check.due("fill() of no such map", y.fill(2, 1, 5), -2);
        Check.due("fill() of no such field", y.fill(1, 2, 5), -2);
        Check.due("octet(0) behind a refused fill()", y.octet(0), Run.THROWS);
    }

    /** 0 .. its length - 1, for the least and the greatest length. */
    private static void everyByte() {
        int[] lengths = {1, 2, 3, 10, 78, 79};
        for (int l : lengths) {
            Run x = Check.withText("M 1 1 80\nF 1 1 1 " + l + " 0\nP 0 1 1");
            Check.due("fill()", x.fill(1, 1, 7), l);
            for (int i = 0; i < l; i++) {
                Check.due("octet(" + i + ") of " + l, x.octet(i), i == l - 1 ? '7' : '0');
            }
            Check.due("octet(" + l + ")", x.octet(l), Run.THROWS);
            Check.due("octet(" + (l + 1) + ")", x.octet(l + 1), Run.THROWS);
            for (int i : FAR) {
                Check.due("octet(" + i + ") of " + l, x.octet(i), Run.THROWS);
            }
            Check.due("octet() behind a throw", x.octet(l - 1), '7');
        }
    }

    /** "what was edited latest": a shorter one leaves nothing of a longer one, nor the other way round. */
    private static void latestOne() {
        Run x = Check.withText("M 1 2 80\nF 1 1 1 5 0\nF 2 2 1 2 0\nM 2 1 9\nF 1 1 1 3 0");
        x.fill(1, 1, 12345);
        x.fill(1, 2, 67);
        Check.due("the shorter one", Check.octets(x, 2), "67");
        Check.due("octet(2)", x.octet(2), Run.THROWS);
        Check.due("octet(4)", x.octet(4), Run.THROWS);
        x.fill(1, 1, 8);
        Check.due("the longer one", Check.octets(x, 5), "8    ");
        x.fill(2, 1, -9);
        Check.due("another map's", Check.octets(x, 3), "-9 ");
        Check.due("octet(3)", x.octet(3), Run.THROWS);
    }

    private static void staysBehindRefusedCalls() {
        Run x = Check.withText("M 1 2 80\nF 2 2 1 2 0");
        x.fill(1, 2, 45);
        x.fill(1, 3, 1);
        x.fill(1, 0, 1);
        x.fill(7, 2, 1);
        x.octet(2);
        x.take(1, 0);
        Check.read(x, "Q");
        Check.due("behind refused calls", Check.octets(x, 2), "45");
        Check.read(x, "M 2 1 1");
        Check.due("behind another edition", Check.octets(x, 2), "45");
        Check.due("octet(2)", x.octet(2), Run.THROWS);
    }
}
