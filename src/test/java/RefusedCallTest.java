/** A call that is refused, or that asks only, leaves every answer as it was: with arguments of every size. */
public final class RefusedCallTest {
    private static final int[] SOME = {Integer.MIN_VALUE, Integer.MIN_VALUE + 1, -65536, -256, -50, -3, -2, -1, 0, 1,
        2, 3, 9, 49, 50, 51, 99, 100, 127, 128, 255, 256, 65536, Integer.MAX_VALUE - 1, Integer.MAX_VALUE};

    public static void main(String[] args) {
        noSuchMap();
        noSuchFieldRowOrColumn();
        noSuchEdition();
        noSuchByteOrWhat();
        onANewObject();
        Check.end();
    }

    private static boolean isNear(int n) {
        return n == 1 || n == 2 || n == 3;
    }

    private static void noSuchMap() {
        for (int n : SOME) {
            if (n != 50) {
                Run x = Edges.busy();
                String before = Edges.answers(x);
                Check.due("field(" + n + ")", x.field(n, 0, 0), -1);
                Check.due("layout(" + n + ")", x.layout(n, 3, 0), -1);
                Check.due("layout(" + n + ", 0, 0)", x.layout(n, 0, 0), -1);
                Check.due("screen(" + n + ")", x.screen(n, 1, 1), -1);
                Check.due("fill(" + n + ")", x.fill(n, 3, n), -2);
                Check.due("take(" + n + ")", x.take(n, n), -2);
                Check.due("program(" + n + ", 1)", x.program(n, 1), -2);
                Check.due("program(" + n + ", 2)", x.program(n, 2), -2);
                Check.due("group(" + n + ")", x.group(n, 3), -2);
                Check.due("all behind map " + n, Edges.answers(x), before);
            }
        }
    }

    private static void noSuchFieldRowOrColumn() {
        for (int n : SOME) {
            Run x = Edges.busy();
            String before = Edges.answers(x);
            Check.due("field(50, " + n + ", 0)", x.field(50, n, 0), n == 0 ? 3 : n == 1 ? 0 : -1);
            Check.due("layout(50, " + n + ", 0)", x.layout(50, n, 0), n == 0 ? 22 : n == 3 ? 12 : -1);
            Check.due("screen(50, " + n + ", 1)", x.screen(50, n, 1), n == 1 || n == 2 ? 32 : -1);
            Check.due("screen(50, 1, " + n + ")", x.screen(50, 1, n),
                n == 2 ? 'A' : n == 3 ? 'B' : n == 1 || n == 9 ? 32 : -1);
            if (n != 3) {
                Check.due("fill(50, " + n + ", 1)", x.fill(50, n, 1), -2);
                Check.due("group(50, " + n + ")", x.group(50, n), -2);
            }
            Check.due("all behind field " + n, Edges.answers(x), before);
        }
    }

    private static void noSuchEdition() {
        for (int n : SOME) {
            Run x = Edges.busy();
            String before = Edges.answers(x);
            Check.due("differ(" + n + ")", x.differ(n), n == 1 ? 1 : n == 2 ? 0 : -2);
            Check.due("program(50, " + n + ")", x.program(50, n), n == 1 ? 0 : n == 2 ? 1 : -2);
            Check.due("program(" + n + ", " + n + ")", x.program(n, n), -2);
            Check.due("all behind edition " + n, Edges.answers(x), before);
        }
    }

    private static void noSuchByteOrWhat() {
        for (int n : SOME) {
            Run x = Edges.busy();
            String before = Edges.answers(x);
            Check.due("octet(" + n + ")", x.octet(n), n == 0 ? '.' : n == 1 ? '7' : Run.THROWS);
            Check.due("overlap(" + n + ", 0)", x.overlap(n, 0), -1);
            Check.due("overlap(0, " + n + ")", x.overlap(0, n), -1);
            if (n < 0 || n > 9) {
                Check.due("field(50, 0, " + n + ")", x.field(50, 0, n), -1);
                Check.due("layout(50, 3, " + n + ")", x.layout(50, 3, n), -1);
                Check.due("told(" + n + ")", x.told(n), -1);
            }
            if (n != 0) {
                Check.due("layout(50, 0, " + n + ")", x.layout(50, 0, n), -1);
            }
            Check.due("all behind what " + n, Edges.answers(x), before);
        }
    }

    private static void onANewObject() {
        for (int n : SOME) {
            Run x = new Run();
            for (int m : SOME) {
                Check.due("field", x.field(n, m, isNear(m) ? m : 0), -1);
                Check.due("layout", x.layout(n, m, 0), -1);
                Check.due("screen", x.screen(n, m, m), -1);
                Check.due("fill", x.fill(n, m, m), -2);
                Check.due("take", x.take(n, m), -2);
                Check.due("program", x.program(m, n), -2);
                Check.due("group", x.group(n, m), -2);
                Check.due("overlap", x.overlap(n, m), -1);
                Check.due("differ", x.differ(m), -2);
                Check.due("octet", x.octet(m), Run.THROWS);
            }
            for (int what = 0; what <= 5; what++) {
                Check.due("told(" + what + ")", x.told(what), 0);
            }
            Check.due("read() of nothing", x.read(), 0);
        }
    }
}
