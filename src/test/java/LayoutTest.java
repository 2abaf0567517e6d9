/** Promise 6. */
public final class LayoutTest {
    public static void main(String[] args) {
        MapText x = Check.withText("M 4 2 80\nM 3 9 80\nF 0 1 1 3 0\nF 8 1 5 4 0\nF 2 2 1 1 0\nO 20\nF 0 3 1 9 0\nF 5 9 1 79 0");
        Check.due("layout(3, 0, 0)", x.layout(3, 0, 0), 12 + 7 + 80 + 82);
        Check.due("layout(4, 0, 0)", x.layout(4, 0, 0), 12);
        int[][] due = {{8, 12, 14, 15, 7}, {2, 19, 21, 22, 80}, {5, 99, 101, 102, 82}};
        for (int[] one : due) {
            for (int what = 0; what < 4; what++) {
                Check.due("layout(3, " + one[0] + ", " + what + ")", x.layout(3, one[0], what), one[what + 1]);
            }
            Check.due("what beyond", x.layout(3, one[0], 4), -1);
            Check.due("what below", x.layout(3, one[0], -1), -1);
        }
        for (int what = -1; what < 5; what++) {
            Check.due("layout(3, 0, " + what + ")", x.layout(3, 0, what), what == 0 ? 181 : -1);
            Check.due("no such field", x.layout(3, 1, what), -1);
            Check.due("no such field", x.layout(3, -1, what), -1);
            Check.due("a field of another map", x.layout(4, 8, what), -1);
            Check.due("no such map", x.layout(2, 0, what), -1);
            Check.due("no such map", x.layout(0, 0, what), -1);
        }
        Check.end();
    }
}
