/** Promise 4. */
public final class FieldTest {
    public static void main(String[] args) {
        MapText x = Check.withText("M 9 1 1\nM 5 24 80\nF 99 24 10 6 11\nO 3\nG 12\nP 4 1 1\nV 3\nF 0 2 3 0 8\nC\nF 7 1 1 79 0");
        int[][] due = {{99, 24, 10, 6, 11, 3, 12, 4, 3, 0}, {0, 2, 3, 0, 8, 1, 0, 0, 0, 1}, {7, 1, 1, 79, 0, 1, 0, 0, 0, 0}};
        for (int i = 0; i < due.length; i++) {
            for (int what = 0; what < 10; what++) {
                Check.due("field(5, " + i + ", " + what + ")", x.field(5, i, what), due[i][what]);
            }
            Check.due("what beyond", x.field(5, i, 10), -1);
            Check.due("what below", x.field(5, i, -1), -1);
        }
        int[] none = {-1, 3, 30, Integer.MAX_VALUE, Integer.MIN_VALUE};
        for (int i : none) {
            Check.due("field(5, " + i + ", 0)", x.field(5, i, 0), -1);
        }
        Check.due("a map without fields", x.field(9, 0, 0), -1);
        Check.due("no such map", x.field(1, 0, 0), -1);
        Check.due("no such map", x.field(-5, 0, 0), -1);
        Check.due("a fault", Check.read(x, "M 5 24 80\nF 1 1 1 1 0\nX"), -4);
        Check.due("stays behind a fault", x.field(5, 0, 0), 99);
        Check.due("another edition", Check.read(x, "M 5 24 80\nF 1 1 1 1 0"), 1);
        Check.due("the latest edition", x.field(5, 0, 0), 1);
        Check.due("the latest edition", x.field(5, 1, 0), -1);
        Check.end();
    }
}
