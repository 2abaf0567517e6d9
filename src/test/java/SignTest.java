/** Promise 2. */
public final class SignTest {
    public static void main(String[] args) {
        everyByteInEveryPlace();
        upToFour();
        highestByteFirst();
        leftOutLeavesNoGap();
        atTheTextsEnd();
        most();
        mostAmidFour();
        emptyAgainBehindTheMost();
        Check.end();
    }

    /** "32 .. 126, and 10": also the last one of 512 calls answers. */
    private static void everyByteInEveryPlace() {
        for (int shift = 0; shift <= 24; shift += 8) {
            Run x = new Run();
            int signs = 0;
            for (int one = 0; one <= 255; one++) {
                x.sign(one << shift);
                signs += one >= 32 && one <= 126 || one == 10 ? 1 : 0;
                Check.due("told(4) with " + one + " at " + shift, x.told(4), signs);
            }
            Check.due("calls left", x.left(), 0);
        }
    }

    /** "Up to four signs": none, one, two, three, four, whichever of the bytes they are. */
    private static void upToFour() {
        for (int which = 0; which < 16; which++) {
            Run x = new Run();
            int c = 0;
            for (int at = 0; at < 4; at++) {
                c |= ((which >> at & 1) == 1 ? 'A' : 0x80) << 8 * at;
            }
            x.sign(c);
            Check.due("told(4) of " + Integer.toHexString(c), x.told(4), Integer.bitCount(which));
        }
    }

    /** "those of c from its highest byte on". */
    private static void highestByteFirst() {
        Run x = new Run();
        Check.put(x, "M 1 1 9\nF 1 1 1 6 0\nI ");
        x.sign('a' << 24 | 'b' << 16 | 'c' << 8 | 'd');
        x.sign('e' << 8 | 'f');
        Check.due("read()", x.read(), 1);
        for (int i = 0; i < 6; i++) {
            Check.due("sign " + i, x.screen(1, 1, 2 + i), 'a' + i);
        }
        Run y = new Run();
        y.sign('M' << 24 | ' ' << 16 | '7' << 8 | ' ');
        y.sign('1' << 24 | ' ' << 16 | '9' << 8 | '\n');
        Check.due("read()", y.read(), 1);
        Check.due("a row", y.screen(7, 1, 9), 32);
        Check.due("no second row", y.screen(7, 2, 9), -1);
    }

    /** "others than told are left out": what is ahead and behind stands together. */
    private static void leftOutLeavesNoGap() {
        int[] others = {0, 9, 11, 13, 31, 127, 128, 160, 255};
        for (int other : others) {
            Run x = new Run();
            x.sign('M' << 24 | other << 16 | ' ' << 8 | '1');
            x.sign(other << 24 | '2' << 16 | other << 8 | ' ');
            x.sign(other << 24 | other << 16 | other << 8 | other);
            x.sign('1' << 24 | ' ' << 16 | '1' << 8 | other);
            Check.due("told(4) with " + other + " left out", x.told(4), 8);
            Check.due("read() with " + other + " left out", x.read(), 1);
            Check.due("map 12", x.screen(12, 1, 1), 32);
        }
    }

    /** "at the text's end": what stands ahead stays, and read() alone empties it. */
    private static void atTheTextsEnd() {
        Run x = new Run();
        Check.put(x, "M 1 1");
        x.fill(1, 1, 1);
        x.take(1, 1);
        x.octet(0);
        Check.due("told(4)", x.told(4), 5);
        Check.put(x, " 1\nM 2 1 1");
        Check.due("told(4)", x.told(4), 15);
        Check.due("read()", x.read(), 2);
        Check.due("told(4) behind read()", x.told(4), 0);
        Check.put(x, "M 3 1 1");
        Check.due("read() of the new text alone", x.read(), 1);
    }

    /** A text of blanks, longer than 512 calls can make it: the bound is held all the same. */
    private static MapText blanks(int count) {
        MapText x = new MapText();
        for (int i = 0; i < count; i++) {
            x.sign(' ');
        }
        Check.due("told(4) of blanks", x.told(4), count);
        return x;
    }

    /** "at most 3000 signs"; "what is beyond 3000, too" is left out. */
    private static void most() {
        int[] ahead = {2989, 2990, 2991, 2992, 2993, 2994};
        int[] faults = {1, 1, 3, 0, 0, 1};
        String text = "M 1 1 1299";
        for (int k = 0; k < ahead.length; k++) {
            MapText x = blanks(ahead[k]);
            for (int i = 0; i < text.length(); i++) {
                x.sign(text.charAt(i));
                Check.due("told(4)", x.told(4), Math.min(ahead[k] + i + 1, 3000));
            }
            Check.due("read() behind " + ahead[k], x.read(), faults[k] == 0 ? 1 : -2);
            Check.due("told(0) behind " + ahead[k], x.told(0), faults[k]);
        }
        MapText y = blanks(3000);
        y.sign('Q');
        y.sign('\n');
        Check.due("told(4)", y.told(4), 3000);
        Check.due("no Q came in", y.read(), 0);
    }

    private static void mostAmidFour() {
        for (int ahead = 2995; ahead <= 3000; ahead++) {
            MapText x = blanks(ahead);
            x.sign('*' << 24 | '\n' << 16 | '*' << 8 | 'Q');
            Check.due("told(4) of " + ahead + " and four", x.told(4), Math.min(ahead + 4, 3000));
            x.sign('Q' << 8);
            Check.due("told(4) of " + ahead + ", four and one", x.told(4), Math.min(ahead + 5, 3000));
            Check.due("read()", x.read(), 0);
        }
        MapText y = blanks(2998);
        y.sign('*' << 24 | '\n' << 16 | 'Q' << 8 | 'Q');
        Check.due("read() without the two that are beyond", y.read(), 0);
        MapText z = blanks(2997);
        z.sign('*' << 24 | '\n' << 16 | 'Q' << 8 | 'Q');
        Check.due("read() with the last one that fits", z.read(), -3);
    }

    private static void emptyAgainBehindTheMost() {
        MapText x = blanks(3000);
        x.sign(' ');
        Check.due("read()", x.read(), 0);
        Check.due("told(4)", x.told(4), 0);
        x.sign('Q');
        Check.due("told(4)", x.told(4), 1);
        Check.due("read() of Q alone", x.read(), -2);
    }
}
