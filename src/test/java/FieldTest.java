/** Promise 4. */
public final class FieldTest {
    public static void main(String[] args) {
        whatIsTold();
        whatIsNotTold();
        byLines();
        noneWithout();
        editionAtHandAlone();
        Check.end();
    }

    private static void all(Run x, int map, int i, int... due) {
        for (int what = 0; what < due.length; what++) {
            Check.due("field(" + map + ", " + i + ", " + what + ")", x.field(map, i, what), due[what]);
        }
        int[] others = {-1, 10, 11, Integer.MAX_VALUE, Integer.MIN_VALUE};
        for (int what : others) {
            Check.due("field(" + map + ", " + i + ", " + what + ")", x.field(map, i, what), -1);
        }
    }

    private static void whatIsTold() {
        Run x = Check.withText("M 9 1 1\nM 5 24 80\nF 99 24 10 6 11\nO 3\nG 12\nP 4 1 1\nV 3\nF 0 2 3 0 8\nC\nF 7 1 1 79 0");
        all(x, 5, 0, 99, 24, 10, 6, 11, 3, 12, 4, 3, 0);
        all(x, 5, 1, 0, 2, 3, 0, 8, 1, 0, 0, 0, 1);
        all(x, 5, 2, 7, 1, 1, 79, 0, 1, 0, 0, 0, 0);
    }

    /** A field without O occurs once; without G, P, V, C it has 0 of them. */
    private static void whatIsNotTold() {
        Run x = Check.withText("M 1 1 9\nF 1 1 1 1 0\nI A");
        all(x, 1, 0, 1, 1, 1, 1, 0, 1, 0, 0, 0, 0);
        String[] lines = {"O 2", "G 2", "P 2 0 0", "V 2", "C"};
        for (int which = 0; which < lines.length; which++) {
            Run y = Check.withText("M 1 1 9\nF 1 1 1 3 0\n" + lines[which]);
            int[] due = {1, 1, 1, 3, 0, 1, 0, 0, 0, 0};
            due[5 + which] = which == 4 ? 1 : 2;
            all(y, 1, 0, due);
        }
    }

    /** "the i-th field of a map, by lines (from 0 on; labels, too)". */
    private static void byLines() {
        StringBuilder text = new StringBuilder("M 1 2 80\n");
        for (int i = 29; i >= 0; i--) {
            text.append("F ").append(i % 3 == 0 ? 0 : i).append(" 1 ").append(1 + 2 * i).append(" 1 0\n");
        }
        Run x = Check.withText(text.toString());
        for (int i = 0; i < 30; i++) {
            Check.due("name of " + i, x.field(1, i, 0), (29 - i) % 3 == 0 ? 0 : 29 - i);
            Check.due("column of " + i, x.field(1, i, 2), 59 - 2 * i);
        }
        int[] none = {-1, 30, 31, Integer.MAX_VALUE, Integer.MIN_VALUE};
        for (int i : none) {
            Check.due("field(1, " + i + ", 0)", x.field(1, i, 0), -1);
        }
    }

    private static void noneWithout() {
        Run x = Check.withText("M 9 1 1\nM 5 1 9\nF 1 1 1 1 0");
        for (int what = 0; what < 10; what++) {
            Check.due("a map without fields", x.field(9, 0, what), -1);
            Check.due("behind the last field", x.field(5, 1, what), -1);
            Check.due("ahead of the first field", x.field(5, -1, what), -1);
            int[] maps = {4, 6, 0, -5, 1, Integer.MAX_VALUE, Integer.MIN_VALUE};
            for (int map : maps) {
                Check.due("field(" + map + ", 0, " + what + ")", x.field(map, 0, what), -1);
            }
        }
    }

    private static void editionAtHandAlone() {
        Run x = Check.withText("M 5 24 80\nF 99 1 1 1 0\nF 98 2 1 1 0");
        Check.put(x, "M 5 24 80\nF 1 1 1 1 0\nX");
        Check.due("a text that isn't read", x.field(5, 0, 0), 99);
        Check.due("a fault", x.read(), -4);
        Check.due("stays behind a fault", x.field(5, 0, 0), 99);
        Check.due("another edition", Check.read(x, "M 5 24 80\nF 1 1 1 1 0"), 1);
        Check.due("the latest edition", x.field(5, 0, 0), 1);
        Check.due("the latest edition", x.field(5, 1, 0), -1);
    }
}
