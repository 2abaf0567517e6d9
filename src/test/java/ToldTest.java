/** Promise 14. */
public final class ToldTest {
    public static void main(String[] args) {
        MapText x = new MapText();
        told(x, 0, 0, 0, 0, 0, 0);
        Check.put(x, "M 1 1 1\nM 2 2");
        told(x, 0, 0, 0, 0, 13, 0);
        x.read();
        told(x, 1, 2, 0, 0, 0, 0);
        Check.read(x, "M 1 1 1\nM 2 2 2\n");
        told(x, 0, 0, 1, 2, 0, 0);
        x.take(2, (byte) 1);
        x.take(2, (byte) 1);
        x.take(9, (byte) 1);
        told(x, 0, 0, 1, 2, 0, 2);
        Check.read(x, "\nM 1 1 1\n\nM 1 1 1");
        told(x, 4, 4, 1, 2, 0, 2);
        x.take(1, (byte) 1);
        told(x, 4, 4, 1, 2, 0, 1);
        Check.read(x, "M 0 1 1");
        told(x, 3, 1, 1, 2, 0, 1);
        Check.read(x, "C");
        told(x, 2, 1, 1, 2, 0, 1);
        Check.read(x, "M 5 1 1");
        told(x, 0, 0, 2, 1, 0, 0);
        Check.end();
    }

    private static void told(MapText x, int... due) {
        for (int what = 0; what < due.length; what++) {
            Check.due("told(" + what + ")", x.told(what), due[what]);
        }
        int[] others = {-1, 6, 7, Integer.MAX_VALUE, Integer.MIN_VALUE};
        for (int what : others) {
            Check.due("told(" + what + ")", x.told(what), -1);
        }
    }
}
