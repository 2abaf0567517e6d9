/** Terms: the bounds of every number of every word, just inside, at and just beyond, and that field() tells them. */
public final class NumberEdgesTest {
    private static final String MAP = "M 1 3 80\n";
    private static final String FIELD = MAP + "F 1 1 1 1 0\n";

    public static void main(String[] args) {
        maps();
        names();
        rows();
        columns();
        lengths();
        attributes();
        times();
        groups();
        decimals();
        sidesAndNoughts();
        marks();
        Check.end();
    }

    /** Lines with # for the number, which must be within these bounds; beyond them it is fault 3. */
    private static void within(String text, int least, int most) {
        for (int n = 0; n <= 999; n++) {
            boolean near = Math.abs(n - least) <= 1 || Math.abs(n - most) <= 1 || n == 127 || n == 128
                || n == 255 || n == 256 || n == 999;
            if (near && n >= least && n <= most) {
                Edges.taken(text.replace("#", "" + n));
            } else if (near) {
                Edges.refused(text.replace("#", "" + n), 3);
            }
        }
    }

    /** field() of map 1's first field tells the number. */
    private static void told(String text, int what, int... numbers) {
        for (int n : numbers) {
            Run x = Check.withText(text.replace("#", "" + n));
            Check.due("field(1, 0, " + what + ") of " + text.replace("\n", "|"), x.field(1, 0, what), n);
        }
    }

    /** "map n (1 .. 99) of r rows (1 .. 24), c columns (1 .. 80)". */
    private static void maps() {
        within("M # 1 1", 1, 99);
        within("M 1 # 1", 1, 24);
        within("M 1 1 #", 1, 80);
        int[] numbers = {1, 2, 98, 99};
        for (int n : numbers) {
            Run x = Check.withText("M " + n + " 1 1");
            Check.due("map " + n, x.layout(n, 0, 0), 12);
            Check.due("map " + (n - 1), x.layout(n - 1, 0, 0), -1);
            Check.due("map " + (n + 1), x.layout(n + 1, 0, 0), -1);
        }
    }

    /** "name n (1 .. 99; 0: a LABEL)". */
    private static void names() {
        within(MAP + "F # 1 1 1 0", 0, 99);
        told(MAP + "F # 1 1 1 0", 0, 0, 1, 2, 98, 99);
        Run x = Check.withText(MAP + "F 0 1 1 1 0");
        Check.due("a label has no place in the layout", x.layout(1, 0, 0), 12);
        Run y = Check.withText(MAP + "F 99 1 1 1 0");
        Check.due("a field with a name has", y.layout(1, 0, 0), 16);
    }

    /** "at row y (1 .. r)", r of the latest map. */
    private static void rows() {
        int[] counts = {1, 2, 23, 24};
        for (int r : counts) {
            within("M 2 5 80\nM 1 " + r + " 80\nF 1 # 1 1 0", 1, r);
            told("M 1 " + r + " 80\nF 1 # 1 1 0", 1, 1, r);
        }
    }

    /** "column x (1 .. c)": beyond c it is fault 3, not 4, which the row's end is. */
    private static void columns() {
        int[] counts = {1, 2, 79, 80};
        for (int c : counts) {
            within("M 2 5 80\nM 1 1 " + c + "\nF 0 1 # 0 0", 1, c);
            told("M 1 1 " + c + "\nF 0 1 # 0 0", 2, 1, c);
            Edges.refused("M 1 1 " + c + "\nF 1 1 " + c + " 1 0", 4);
            Edges.refused("M 1 1 " + c + "\nF 1 1 " + (c + 1) + " 1 0", 3);
        }
    }

    /** "of length l (0 .. 80; 0 of a label alone)": 80 and its blank place fit in no row, so that is fault 4. */
    private static void lengths() {
        Edges.refused(MAP + "F 1 1 1 0 0", 3);
        Edges.refused(MAP + "F 99 1 1 0 0", 3);
        String[] names = {"0", "1"};
        for (String name : names) {
            Edges.taken(MAP + "F " + name + " 1 1 1 0");
            Edges.taken(MAP + "F " + name + " 1 1 2 0");
            Edges.taken(MAP + "F " + name + " 1 1 78 0");
            Edges.taken(MAP + "F " + name + " 1 1 79 0");
            Edges.refused(MAP + "F " + name + " 1 1 80 0", 4);
            Edges.refused(MAP + "F " + name + " 1 1 81 0", 3);
            Edges.refused(MAP + "F " + name + " 1 1 999 0", 3);
        }
        Edges.taken(MAP + "F 0 1 1 0 0");
        told(MAP + "F 0 1 1 # 0", 3, 0, 1, 79);
        told(MAP + "F 1 1 1 # 0", 3, 1, 2, 78, 79);
    }

    /** "attributes a (0 .. 15)". */
    private static void attributes() {
        within(MAP + "F 1 1 1 1 #", 0, 15);
        within(MAP + "F 0 1 1 1 #", 0, 15);
        told(MAP + "F 1 1 1 1 #", 4, 0, 1, 2, 3, 4, 7, 8, 14, 15);
    }

    /** "OCCURS k times (1 .. 20)". */
    private static void times() {
        within(FIELD + "O #", 1, 20);
        told(FIELD + "O #", 5, 1, 2, 19, 20);
        Edges.refused("M 1 1 9\nF 1 1 1 1 0\nO 20", 4);
        Edges.refused("M 1 1 9\nF 1 1 1 1 0\nO 21", 3);
    }

    /** "of group g (1 .. 99)". */
    private static void groups() {
        within(FIELD + "G #", 1, 99);
        told(FIELD + "G #", 6, 1, 2, 98, 99);
    }

    /** "d decimals (0 .. 9, fewer than l)". */
    private static void decimals() {
        int[] lengths = {1, 2, 8, 9, 10, 11, 12, 79};
        for (int l : lengths) {
            within(MAP + "F 1 1 1 " + l + " 0\nP # 0 0", 0, Math.min(9, l - 1));
            told(MAP + "F 1 1 1 " + l + " 0\nP # 0 0", 7, 0, Math.min(9, l - 1));
        }
    }

    /** "j 1 to the right, else 0, f 1 filled with noughts, else 0". */
    private static void sidesAndNoughts() {
        within(FIELD + "P 0 # 0", 0, 1);
        within(FIELD + "P 0 0 #", 0, 1);
        within(FIELD + "P 0 # 1", 0, 1);
        within(FIELD + "P 0 1 #", 0, 1);
    }

    /** "marks (1 .. 3)". */
    private static void marks() {
        within(FIELD + "V #", 1, 3);
        told(FIELD + "V #", 8, 1, 2, 3);
    }
}
