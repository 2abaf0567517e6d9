/** "An object is used for at most 512 calls": the last of them answers as the first ones do. */
public final class LastCallTest {
    public static void main(String[] args) {
        Check.due("field", worn().field(50, 0, 0), 3);
        Check.due("overlap", worn().overlap(0, 0), -1);
        Check.due("layout", worn().layout(50, 0, 0), 22);
        Check.due("screen", worn().screen(50, 1, 2), 'A');
        Check.due("fill", worn().fill(50, 3, 5), 2);
        Check.due("octet", worn().octet(1), '7');
        Check.due("octet throws", worn().octet(2), Run.THROWS);
        Check.due("take", worn().take(50, 1), -1);
        Check.due("differ", worn().differ(1), 1);
        Check.due("program", worn().program(50, 1), 0);
        Check.due("group", worn().group(50, 3), 6);
        Check.due("told", worn().told(5), 3);
        Check.due("read", worn().read(), 0);
        longestText();
        readsAlone();
        fillsAlone();
        takesAlone();
        Check.end();
    }

    /** One call is left. */
    private static Run worn() {
        Run x = Edges.busy();
        while (x.left() > 1) {
            x.told(0);
        }
        return x;
    }

    /** 511 calls of four signs make the longest text that can be asked for. */
    private static void longestText() {
        Run x = new Run();
        for (int i = 1; i <= 511; i++) {
            x.sign(0x20202020);
        }
        Check.due("told(4)", x.told(4), 2044);
        Run y = new Run();
        y.sign('*');
        for (int i = 1; i <= 510; i++) {
            y.sign(0x7E7E7E7E);
        }
        Check.due("read()", y.read(), 0);
        Run z = new Run();
        for (int i = 1; i <= 511; i++) {
            z.sign(0x0A0A0A0A);
        }
        Check.due("read() of 2045 lines", z.read(), 0);
    }

    private static void readsAlone() {
        Run x = new Run();
        for (int i = 1; i <= 512; i++) {
            Check.due("read() number " + i, x.read(), i <= 6 ? 0 : -1);
        }
        Run y = new Run();
        for (int i = 1; i <= 256; i++) {
            y.sign('Q');
            Check.due("read() of a fault, number " + i, y.read(), -2);
        }
    }

    private static void fillsAlone() {
        Run x = Check.withText("M 1 1 80\nF 1 1 1 79 0");
        while (x.left() > 1) {
            Check.due("fill()", x.fill(1, 1, x.left()), 79);
        }
        Check.due("octet(0)", x.octet(0), '2');
    }

    private static void takesAlone() {
        Run x = Check.withText("M 1 1 1");
        for (int i = 1; x.left() > 0; i++) {
            Check.due("take() number " + i, x.take(1, i), i % 12 == 0 ? 0 : -1);
        }
    }
}
