/** Promise 6, and THE LAYOUT of the Terms. */
public final class LayoutTest {
    public static void main(String[] args) {
        byLines();
        lengthsAndTimes();
        wholeLayout();
        noneWithout();
        Check.end();
    }

    /** "of each field with a name, by lines": not by names, nor by places, and labels take none. */
    private static void byLines() {
        Run x = Check.withText("M 4 2 80\nM 3 9 80\nF 0 1 1 3 0\nF 8 1 5 4 0\nF 2 2 1 1 0\nO 20\nF 0 3 1 9 0\nF 5 9 1 79 0");
        Check.due("layout(3, 0, 0)", x.layout(3, 0, 0), 12 + 7 + 80 + 82);
        int[][] due = {{8, 12, 14, 15, 7}, {2, 19, 21, 22, 80}, {5, 99, 101, 102, 82}};
        for (int[] one : due) {
            for (int what = 0; what < 4; what++) {
                Check.due("layout(3, " + one[0] + ", " + what + ")", x.layout(3, one[0], what), one[what + 1]);
            }
        }
    }

    /** "for each of its times: 2 bytes for how many came, 1 byte of attributes, l bytes of data". */
    private static void lengthsAndTimes() {
        int[] lengths = {1, 2, 3, 39, 78, 79};
        int[] times = {1, 2, 3, 19, 20};
        for (int l : lengths) {
            for (int k : times) {
                if ((l + 1) * k <= 80) {
                    Run x = Check.withText("M 1 2 80\nF 1 1 1 " + l + " 0\nO " + k + "\nF 2 2 1 1 0");
                    int[] due = {12, 14, 15, (3 + l) * k};
                    for (int what = 0; what < 4; what++) {
                        Check.due("l " + l + ", k " + k + ", what " + what, x.layout(1, 1, what), due[what]);
                    }
                    Check.due("the field behind", x.layout(1, 2, 0), 12 + (3 + l) * k);
                    Check.due("the whole", x.layout(1, 0, 0), 12 + (3 + l) * k + 4);
                }
            }
        }
    }

    /** "12 bytes, then of each field": none, labels alone, 30 fields. */
    private static void wholeLayout() {
        Run x = Check.withText("M 1 1 1\nM 2 1 9\nF 0 1 1 3 0\nM 3 1 9\nF 0 1 1 3 0\nF 9 1 5 1 0");
        Check.due("no field", x.layout(1, 0, 0), 12);
        Check.due("a label", x.layout(2, 0, 0), 12);
        Check.due("a label and a field", x.layout(3, 0, 0), 16);
        StringBuilder text = new StringBuilder("M 1 24 80\n");
        for (int i = 1; i <= 30; i++) {
            text.append("F ").append(i).append(' ').append(1 + i % 24).append(' ').append(i < 24 ? 1 : 41);
            text.append(" 39 0\n");
        }
        Run y = Check.withText(text.toString());
        Check.due("30 fields", y.layout(1, 0, 0), 12 + 30 * 42);
        Check.due("the 30th", y.layout(1, 30, 0), 12 + 29 * 42);
    }

    private static void noneWithout() {
        Run x = Check.withText("M 4 1 9\nM 3 2 9\nF 8 1 1 4 0\nF 0 2 1 1 0");
        for (int what = -1; what < 5; what++) {
            Check.due("layout(3, 0, " + what + ")", x.layout(3, 0, what), what == 0 ? 19 : -1);
            int[] fields = {1, 7, 9, -1, -8, 99, 100, Integer.MAX_VALUE, Integer.MIN_VALUE};
            for (int field : fields) {
                Check.due("layout(3, " + field + ", " + what + ")", x.layout(3, field, what), -1);
            }
            Check.due("a field of another map", x.layout(4, 8, what), -1);
            int[] maps = {2, 5, 0, -3, 100, Integer.MAX_VALUE, Integer.MIN_VALUE};
            for (int map : maps) {
                Check.due("layout(" + map + ", 0, " + what + ")", x.layout(map, 0, what), -1);
                Check.due("layout(" + map + ", 8, " + what + ")", x.layout(map, 8, what), -1);
            }
        }
        int[] whats = {-1, 4, Integer.MAX_VALUE, Integer.MIN_VALUE};
        for (int what : whats) {
            Check.due("layout(3, 8, " + what + ")", x.layout(3, 8, what), -1);
            Check.due("layout(3, 0, " + what + ")", x.layout(3, 0, what), -1);
        }
    }
}
