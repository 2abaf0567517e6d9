/** Promise 7. */
public final class ScreenTest {
    public static void main(String[] args) {
        MapText x = Check.withText("M 1 5 12\nF 0 1 1 4 0\nI  AB\nF 1 2 2 2 7\nI XY\nO 3\nF 2 3 1 3 8\nI SEC\n"
            + "F 3 4 9 3 0\nP 0 1 1\nI 12\nF 0 4 1 2 15\nI Q\nF 0 4 4 0 0\nF 4 5 8 4 0\nI  a b");
        String[] due = {"  AB        ", "  XY XY XY  ", "            ", "         12 ", "         a b"};
        for (int row = 1; row <= 5; row++) {
            StringBuilder shown = new StringBuilder();
            for (int column = 1; column <= 12; column++) {
                shown.append((char) x.screen(1, row, column));
            }
            Check.due("row " + row, shown.toString(), due[row - 1]);
            Check.due("column 0", x.screen(1, row, 0), -1);
            Check.due("column 13", x.screen(1, row, 13), -1);
        }
        Check.due("row 0", x.screen(1, 0, 1), -1);
        Check.due("row 6", x.screen(1, 6, 1), -1);
        Check.due("row -1", x.screen(1, -1, 1), -1);
        Check.due("far off", x.screen(1, Integer.MAX_VALUE, Integer.MIN_VALUE), -1);
        Check.due("no such map", x.screen(2, 1, 1), -1);
        Check.due("no such map", x.screen(0, 1, 1), -1);
        Check.put(x, "M 1 1 1\nF 1 1 1 1 0");
        Check.due("a text that isn't read", x.screen(1, 1, 3), 'A');
        x.read();
        Check.due("the edition at hand stays behind a fault", x.screen(1, 1, 3), 'A');
        Check.put(x, "M 1 1 3");
        x.read();
        Check.due("another edition", x.screen(1, 1, 3), 32);
        Check.end();
    }
}
