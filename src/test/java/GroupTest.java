/** Promise 13. */
public final class GroupTest {
    public static void main(String[] args) {
        MapText x = Check.withText("M 1 3 40\nF 1 1 1 4 0\nG 7\nF 2 1 6 2 0\nO 3\nG 7\nF 3 2 1 1 0\nG 99\nF 4 1 15 3 0\nG 7\n"
            + "F 5 3 1 1 0\nF 0 3 9 1 0\nM 2 1 40\nF 1 1 1 9 0\nG 7\nO 2");
        int[] due = {-2, 18, 18, 2, 18, 0, -2};
        for (int field = 0; field < due.length; field++) {
            Check.due("group(1, " + field + ")", x.group(1, field), due[field]);
        }
        Check.due("group(2, 1)", x.group(2, 1), 20);
        Check.due("group(2, 2)", x.group(2, 2), -2);
        Check.due("group(3, 1)", x.group(3, 1), -2);
        Check.due("group(1, -1)", x.group(1, -1), -2);
        Check.due("group(0, 0)", x.group(0, 0), -2);
        Check.end();
    }
}
