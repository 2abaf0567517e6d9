/** Promise 13. */
public final class GroupTest {
    public static void main(String[] args) {
        severalGroups();
        leastAndGreatest();
        missing();
        Check.end();
    }

    private static void severalGroups() {
        Run x = Check.withText("M 1 3 40\nF 1 1 1 4 0\nG 7\nF 2 1 6 2 0\nO 3\nG 7\nF 3 2 1 1 0\nG 99\nF 4 1 15 3 0\nG 7\n"
            + "F 5 3 1 1 0\nF 0 3 9 1 0\nM 2 1 40\nF 1 1 1 9 0\nG 7\nO 2");
        int[] due = {-2, 18, 18, 2, 18, 0, -2};
        for (int field = 0; field < due.length; field++) {
            Check.due("group(1, " + field + ")", x.group(1, field), due[field]);
        }
        Check.due("group(2, 1), another map's group 7", x.group(2, 1), 20);
    }

    /** "How many places, with blank ones": 2 at least, a whole row at most. */
    private static void leastAndGreatest() {
        Run x = Check.withText("M 1 2 80\nF 1 1 1 1 0\nG 1\nF 2 2 1 79 0\nG 99");
        Check.due("one field of one place", x.group(1, 1), 2);
        Check.due("one field of the whole row", x.group(1, 2), 80);
        Run y = Check.withText("M 1 2 80\nF 1 1 1 3 0\nG 1\nO 19\nF 2 1 77 3 0\nG 1\nF 3 2 1 3 0\nO 20");
        Check.due("all times, and one more field", y.group(1, 1), 80);
        Check.due("the same of its other field", y.group(1, 2), 80);
        Check.due("none of a field without group, though it occurs", y.group(1, 3), 0);
        StringBuilder text = new StringBuilder("M 1 1 80\n");
        for (int i = 0; i < 30; i++) {
            text.append("F ").append(i + 1).append(" 1 ").append(1 + 2 * i).append(" 1 0\nG 5\n");
        }
        Run z = Check.withText(text.toString());
        Check.due("30 fields", z.group(1, 1), 60);
        Check.due("30 fields", z.group(1, 30), 60);
    }

    /** "-2 no such map or field": a label has no name, so it is none. */
    private static void missing() {
        Run x = Check.withText("M 2 3 40\nF 4 1 1 4 0\nG 7\nF 0 2 1 1 0\nM 3 1 9\nF 5 1 1 1 0");
        int[] fields = {0, 3, 5, -1, -4, 99, 100, Integer.MAX_VALUE, Integer.MIN_VALUE};
        for (int field : fields) {
            Check.due("group(2, " + field + ")", x.group(2, field), -2);
        }
        int[] maps = {0, 1, 4, -2, 99, 100, Integer.MAX_VALUE, Integer.MIN_VALUE};
        for (int map : maps) {
            Check.due("group(" + map + ", 4)", x.group(map, 4), -2);
            Check.due("group(" + map + ", 0)", x.group(map, 0), -2);
        }
        Check.due("group(3, 5)", x.group(3, 5), 0);
        Check.due("another edition", Check.read(x, "M 2 1 9\nF 5 1 1 1 0"), 1);
        Check.due("a field of an edition before", x.group(2, 4), -2);
    }
}
