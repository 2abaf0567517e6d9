/** Promise 11. */
public final class DifferTest {
    private static final String FIRST = "M 1 3 20\nF 0 3 1 2 0\nF 1 1 1 4 0\nF 2 1 6 2 0\nO 2\nM 2 1 9\nF 1 1 1 1 0";

    public static void main(String[] args) {
        differing("the same", FIRST, 0);
        differing("other rows, attributes, groups, pictures, marks, TEXTs, labels",
            "M 1 4 22\nF 1 2 3 4 7\nG 4\nP 1 1 1\nV 3\nI AB\nC\nF 0 1 1 2 0\nF 0 3 3 3 0\nF 2 3 9 2 0\nO 2\nM 2 1 9\nF 1 1 2 1 3", 0);
        differing("another length moves what is behind, too", FIRST.replace("F 1 1 1 4 0", "F 1 1 1 3 0"), 2);
        differing("other times", FIRST.replace("O 2", "O 3"), 1);
        differing("a field more at the end", FIRST + "\nF 3 1 5 1 0", 1);
        differing("a field fewer", FIRST.replace("\nF 2 1 6 2 0\nO 2", ""), 0);
        differing("a field fewer ahead", FIRST.replace("\nF 1 1 1 4 0", ""), 1);
        differing("a map that wasn't there", FIRST.replace("M 2", "M 3"), 1);
        differing("a map fewer", "M 1 1 9", 0);
        differing("maps the other way round", "M 2 1 9\nF 1 1 1 1 0\nM 1 3 20\nF 1 1 1 4 0\nF 2 1 6 2 0\nO 2", 0);
        differing("another map's fields", "M 2 3 20\nF 1 1 1 4 0\nF 2 1 6 2 0\nO 2", 2);
        differing("fields the other way round", "M 1 3 20\nF 2 1 6 2 0\nO 2\nF 1 1 1 4 0", 2);
        noSuch();
        Check.end();
    }

    private static void differing(String how, String text, int want) {
        MapText x = Check.withText(FIRST);
        Check.due("differ(1) with itself", x.differ(1), 0);
        Check.due(how + ": a fault", Check.read(x, text) < 0 ? 1 : 0, 0);
        Check.due("differ(1): " + how, x.differ(1), want);
        Check.due("differ(2) with itself: " + how, x.differ(2), 0);
    }

    private static void noSuch() {
        MapText x = Check.withText(FIRST);
        Check.read(x, "Q");
        int[] none = {0, 2, 6, 7, -1, Integer.MAX_VALUE, Integer.MIN_VALUE};
        for (int edition : none) {
            Check.due("differ(" + edition + ")", x.differ(edition), -2);
        }
        for (int i = 2; i <= 6; i++) {
            Check.read(x, i == 6 ? FIRST : "");
        }
        Check.due("differ(1) of six", x.differ(1), 0);
        Check.due("differ(5) of six", x.differ(5), 3);
        Check.due("differ(6) of six", x.differ(6), 0);
        Check.due("differ(7) of six", x.differ(7), -2);
    }
}
