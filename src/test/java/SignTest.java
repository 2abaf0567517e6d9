/** Promise 2. */
public final class SignTest {
    public static void main(String[] args) {
        order();
        leftOut();
        most();
        Check.end();
    }

    private static void order() {
        MapText x = new MapText();
        x.sign('M' << 24 | ' ' << 16 | '7' << 8 | ' ');
        Check.due("told(4)", x.told(4), 4);
        x.sign('1' << 24 | ' ' << 16 | '9' << 8 | '\n');
        Check.due("told(4)", x.told(4), 8);
        Check.due("read()", x.read(), 1);
        Check.due("a row", x.screen(7, 1, 9), 32);
        Check.due("no second row", x.screen(7, 2, 9), -1);
        Check.due("told(4) behind read()", x.told(4), 0);
    }

    private static void leftOut() {
        MapText x = new MapText();
        x.sign(0);
        x.sign(-1);
        x.sign(Integer.MIN_VALUE);
        x.sign(0x1F7F800D);
        x.sign(0x090B00FF);
        Check.due("told(4) of none that is told", x.told(4), 0);
        x.sign(0x207E0A1F);
        Check.due("told(4) with the edges", x.told(4), 3);
        x.read();
        x.sign('M' << 24 | 0xA0 << 16 | ' ' << 8 | '1');
        x.sign(' ' << 24 | '1' << 8 | ' ');
        x.sign('9');
        Check.due("told(4) with some left out", x.told(4), 7);
        Check.due("read() with some left out", x.read(), 1);
    }

    private static void most() {
        MapText x = new MapText();
        for (int i = 0; i < 749; i++) {
            x.sign(0x20202020);
        }
        x.sign(0x00202020);
        Check.due("told(4)", x.told(4), 2999);
        x.sign(0x2A585858);
        Check.due("told(4) at the most", x.told(4), 3000);
        x.sign(0x41);
        Check.due("told(4) beyond", x.told(4), 3000);
        Check.due("read() of blanks and a *", x.read(), 0);
        Check.due("told(4)", x.told(4), 0);
        for (int i = 0; i < 800; i++) {
            x.sign(0x20202020);
        }
        Check.due("read() of blanks alone", x.read(), 0);
    }
}
