/** Promise 7. */
public final class ScreenTest {
    public static void main(String[] args) {
        rowsAsTheyComeUp();
        attributes();
        textsAtEachTime();
        sideBySide();
        corners();
        noneWithout();
        editionAtHandAlone();
        Check.end();
    }

    private static String row(Run x, int map, int row, int columns) {
        StringBuilder shown = new StringBuilder();
        for (int column = 1; column <= columns; column++) {
            shown.append((char) x.screen(map, row, column));
        }
        return shown.toString();
    }

    private static void rowsAsTheyComeUp() {
        Run x = Check.withText("M 1 5 12\nF 0 1 1 4 0\nI  AB\nF 1 2 2 2 7\nI XY\nO 3\nF 2 3 1 3 8\nI SEC\n"
            + "F 3 4 9 3 0\nP 0 1 1\nI 12\nF 0 4 1 2 15\nI Q\nF 0 4 4 0 0\nF 4 5 8 4 0\nI  a b");
        String[] due = {"  AB        ", "  XY XY XY  ", "            ", "         12 ", "         a b"};
        for (int row = 1; row <= 5; row++) {
            Check.due("row " + row, row(x, 1, row, 12), due[row - 1]);
        }
    }

    /** "(dark ones blanks)": those with 8 among their attributes, no others. */
    private static void attributes() {
        for (int a = 0; a <= 15; a++) {
            Run x = Check.withText("M 1 2 6\nF 1 1 1 1 " + a + "\nI Y\nO 2\nF 0 2 1 5 " + a + "\nI LABEL");
            Check.due("row 1, attributes " + a, row(x, 1, 1, 6), a >= 8 ? "      " : " Y Y  ");
            Check.due("row 2, attributes " + a, row(x, 1, 2, 6), a >= 8 ? "      " : " LABEL");
        }
    }

    /** "of places their TEXTs": of 1 to l signs, "(at each time)"; "of all else 32". */
    private static void textsAtEachTime() {
        for (int signs = 0; signs <= 3; signs++) {
            for (int k = 1; k <= 4; k++) {
                String text = "!x~".substring(0, signs);
                Run x = Check.withText("M 1 1 20\nF 1 1 3 3 0\nO " + k + (signs == 0 ? "" : "\nI " + text));
                String time = " " + text + " ".repeat(3 - signs);
                Check.due("text " + text + ", times " + k, row(x, 1, 1, 20),
                    "  " + time.repeat(k) + " ".repeat(18 - 4 * k));
            }
        }
    }

    /** Full fields that touch one another, told from the left and from the right. */
    private static void sideBySide() {
        String left = "F 1 1 1 2 0\nI AB\n";
        String amid = "F 2 1 4 1 0\nO 2\nI C\n";
        String right = "F 0 1 8 2 0\nI DE\n";
        String[] orders = {left + amid + right, left + right + amid, amid + left + right, amid + right + left,
            right + left + amid, right + amid + left};
        for (String order : orders) {
            Run x = Check.withText("M 1 2 10\n" + order);
            Check.due("row 1", row(x, 1, 1, 10), " AB C C DE");
            Check.due("row 2", row(x, 1, 2, 10), " ".repeat(10));
        }
    }

    /** Row and column 1, the last ones, and those just outside. */
    private static void corners() {
        int[][] sizes = {{1, 2}, {2, 2}, {23, 79}, {24, 80}};
        for (int[] size : sizes) {
            int rows = size[0];
            int columns = size[1];
            Run x = Check.withText("M 1 " + rows + " " + columns + "\nF 1 " + rows + " " + (columns - 1) + " 1 0\nI Z");
            Check.due("the last place", x.screen(1, rows, columns), 'Z');
            Check.due("its blank place", x.screen(1, rows, columns - 1), 32);
            Check.due("the first place", x.screen(1, 1, 1), 32);
            for (int column = 0; column <= columns + 1; column += columns + 1) {
                Check.due("column " + column, x.screen(1, 1, column), -1);
                Check.due("column " + column, x.screen(1, rows, column), -1);
            }
            for (int row = 0; row <= rows + 1; row += rows + 1) {
                Check.due("row " + row, x.screen(1, row, 1), -1);
                Check.due("row " + row, x.screen(1, row, columns), -1);
            }
        }
        Run y = Check.withText("M 1 1 1");
        Check.due("the one place", y.screen(1, 1, 1), 32);
        Check.due("no second column", y.screen(1, 1, 2), -1);
        Check.due("no second row", y.screen(1, 2, 1), -1);
    }

    private static void noneWithout() {
        Run x = Check.withText("M 2 5 12\nM 3 1 1");
        int[] far = {-1, 0, 81, 100, Integer.MAX_VALUE, Integer.MIN_VALUE};
        for (int n : far) {
            Check.due("row " + n, x.screen(2, n, 1), -1);
            Check.due("column " + n, x.screen(2, 1, n), -1);
            Check.due("row and column " + n, x.screen(2, n, n), -1);
            Check.due("map " + n, x.screen(n, 1, 1), -1);
        }
        Check.due("map 1", x.screen(1, 1, 1), -1);
        Check.due("map 4", x.screen(4, 1, 1), -1);
        Check.due("a place of another map", x.screen(3, 5, 12), -1);
    }

    private static void editionAtHandAlone() {
        Run x = Check.withText("M 1 1 3\nF 1 1 2 1 0\nI A");
        Check.put(x, "M 1 1 1\nF 1 1 1 1 0");
        Check.due("a text that isn't read", x.screen(1, 1, 3), 'A');
        Check.due("a fault", x.read(), -3);
        Check.due("the edition at hand stays behind a fault", x.screen(1, 1, 3), 'A');
        Check.due("another edition", Check.read(x, "M 1 1 3"), 1);
        Check.due("another edition", x.screen(1, 1, 3), 32);
    }
}
