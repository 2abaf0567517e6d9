/** Promise 14. */
public final class ToldTest {
    public static void main(String[] args) {
        allOfThem();
        everyFault();
        counts();
        bytesThatCameIn();
        Check.end();
    }

    private static void allOfThem() {
        Run x = new Run();
        told(x, 0, 0, 0, 0, 0, 0);
        Check.put(x, "M 1 1 1\nM 2 2");
        told(x, 0, 0, 0, 0, 13, 0);
        x.read();
        told(x, 1, 2, 0, 0, 0, 0);
        Check.read(x, "M 1 1 1\nM 2 2 2\n");
        told(x, 0, 0, 1, 2, 0, 0);
        x.take(2, 1);
        x.take(2, 1);
        x.take(9, 1);
        told(x, 0, 0, 1, 2, 0, 2);
        Check.read(x, "\nM 1 1 1\n\nM 1 1 1");
        told(x, 4, 4, 1, 2, 0, 2);
        x.take(1, 1);
        told(x, 4, 4, 1, 2, 0, 1);
        Check.read(x, "M 0 1 1");
        told(x, 3, 1, 1, 2, 0, 1);
        Check.read(x, "C");
        told(x, 2, 1, 1, 2, 0, 1);
        Check.read(x, "M 5 1 1");
        told(x, 0, 0, 2, 1, 0, 0);
    }

    /** "NONE for others": just below, just above, far off. */
    private static void told(Run x, int... due) {
        for (int what = 0; what < due.length; what++) {
            Check.due("told(" + what + ")", x.told(what), due[what]);
        }
        int[] others = {-2, -1, 6, 7, Integer.MAX_VALUE, Integer.MIN_VALUE};
        for (int what : others) {
            Check.due("told(" + what + ")", x.told(what), -1);
        }
    }

    /** "the FAULT of the latest read(), 1 its line (both 0 without)": each fault, and none behind each. */
    private static void everyFault() {
        String[] texts = {"Q", "\nF 1 1 1 1 0", "\n\nM 1 25 1", "M 1 1 1\n\n\nM 1 1 1"};
        Run x = new Run();
        for (int i = 0; i < texts.length; i++) {
            Check.due("a fault", Check.read(x, texts[i]), -2 - i);
            told(x, i + 1, i + 1, i, 0, 0, 0);
            x.sign('*');
            told(x, i + 1, i + 1, i, 0, 1, 0);
            Check.due("no fault", x.read(), 0);
            told(x, 0, 0, i + 1, 0, 0, 0);
        }
        Check.due("fault 5", Check.read(x, Check.maps(9)), -10);
        told(x, 5, 9, 4, 0, 0, 0);
        Check.due("no fault", Check.read(x, Check.maps(8)), 8);
        told(x, 0, 0, 5, 8, 0, 0);
    }

    /** Editions 0 .. 6, maps at hand, signs: as many as there are at each step, and no more than 6. */
    private static void counts() {
        Run x = new Run();
        for (int i = 0; i <= 7; i++) {
            Check.due("told(2)", x.told(2), Math.min(i, 6));
            Check.due("told(3)", x.told(3), i == 0 ? 0 : Math.min(i, 6) % 2);
            Check.put(x, i % 2 == 0 ? "M 1 1 1" : "* no");
            Check.due("told(4)", x.told(4), i % 2 == 0 ? 7 : 4);
            x.read();
            Check.due("told(4)", x.told(4), 0);
        }
    }

    /** "bytes that came in ... (0 when it begins anew)": up to the last one but one, then 0. */
    private static void bytesThatCameIn() {
        Run x = Check.withText("M 1 1 80\nF 1 1 1 79 0\nM 2 1 1");
        int bytes = x.layout(1, 0, 0);
        Check.due("the layout's bytes", bytes, 94);
        for (int round = 0; round < 2; round++) {
            for (int i = 1; i <= bytes; i++) {
                x.take(1, 0);
                Check.due("told(5) behind byte " + i, x.told(5), i == bytes ? 0 : i);
            }
        }
        x.take(2, 0);
        Check.due("told(5) of the other map", x.told(5), 1);
        x.take(1, 0);
        Check.due("told(5) of the first one, anew", x.told(5), 1);
        x.take(3, 0);
        Check.due("told(5) behind a refused take()", x.told(5), 1);
        Check.read(x, "Q");
        Check.due("told(5) behind a fault", x.told(5), 1);
        Check.read(x, "M 1 1 1");
        Check.due("told(5) behind another edition", x.told(5), 0);
    }
}
