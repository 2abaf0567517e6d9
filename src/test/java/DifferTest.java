/** Promise 11. */
public final class DifferTest {
    private static final String FIRST = "M 1 3 20\nF 0 3 1 2 0\nF 1 1 1 4 0\nF 2 1 6 2 0\nO 2\nM 2 1 9\nF 1 1 1 1 0";

    public static void main(String[] args) {
        differing("the same", FIRST, 0);
        differing("other rows, attributes, groups, pictures, marks, TEXTs, labels",
            "M 1 4 22\nF 1 2 3 4 7\nG 4\nP 1 1 1\nV 3\nI AB\nC\nF 0 1 1 2 0\nF 0 3 3 3 0\nF 2 3 9 2 0\nO 2\nM 2 1 9\nF 1 1 2 1 3", 0);
        differing("another length moves what is behind, too", FIRST.replace("F 1 1 1 4 0", "F 1 1 1 3 0"), 2);
        differing("other times", FIRST.replace("O 2", "O 3"), 1);
        differing("a field more at the end", FIRST + "\nF 3 1 5 1 0", 1);
        differing("a field fewer", FIRST.replace("\nF 2 1 6 2 0\nO 2", ""), 0);
        differing("a field fewer ahead", FIRST.replace("\nF 1 1 1 4 0", ""), 1);
        differing("a map that wasn't there", FIRST.replace("M 2", "M 3"), 1);
        differing("a map fewer", "M 1 1 9", 0);
        differing("maps the other way round", "M 2 1 9\nF 1 1 1 1 0\nM 1 3 20\nF 1 1 1 4 0\nF 2 1 6 2 0\nO 2", 0);
        differing("another map's fields", "M 2 3 20\nF 1 1 1 4 0\nF 2 1 6 2 0\nO 2", 2);
        differing("fields the other way round", "M 1 3 20\nF 2 1 6 2 0\nO 2\nF 1 1 1 4 0", 2);
        eachAlone();
        manyFields();
        noSuch();
        Check.end();
    }

    private static void differing(String how, String text, int want) {
        Run x = Check.withText(FIRST);
        Check.due("differ(1) with itself", x.differ(1), 0);
        Check.due(how + ": a fault", Check.read(x, text) < 0 ? 1 : 0, 0);
        Check.due("differ(1): " + how, x.differ(1), want);
        Check.due("differ(2) with itself: " + how, x.differ(2), 0);
    }

    /** "-2 no such edition": 0, and one more than there are, for each count of editions. */
    private static void noSuch() {
        Run x = new Run();
        int[] none = {0, -1, 7, 8, Integer.MAX_VALUE, Integer.MIN_VALUE};
        for (int count = 0; count <= 6; count++) {
            for (int edition : none) {
                Check.due("differ(" + edition + ") of " + count, x.differ(edition), -2);
            }
            for (int edition = 1; edition <= 6; edition++) {
                int due = edition > count ? -2 : edition == count ? 0 : 1;
                Check.due("differ(" + edition + ") of " + count, x.differ(edition), due);
            }
            Check.due("a fault makes none", Check.read(x, "Q"), count == 6 ? -1 : -2);
            Check.read(x, "M 1 1 9\nF 1 1 1 " + (count + 1) + " 0");
        }
        Check.due("a seventh makes none", x.differ(7), -2);
        Check.due("the sixth is at hand", x.differ(6), 0);
    }

    /** "there is no such map or field there, or another length, times, or place": each alone, and all at once. */
    private static void eachAlone() {
        alone("no such map", "M 2 1 80", 1);
        alone("no such field", "M 1 1 80\nF 8 1 1 4 0\nO 3", 1);
        alone("another length", "M 1 1 80\nF 9 1 1 5 0\nO 3", 1);
        alone("other times", "M 1 1 80\nF 9 1 1 4 0\nO 2", 1);
        alone("another place", "M 1 1 80\nF 8 1 60 1 0\nF 9 1 1 4 0\nO 3", 1);
        alone("all of these", "M 1 1 80\nF 8 1 60 1 0\nF 9 1 1 5 0", 1);
        alone("none of these", "M 1 1 80\nF 9 1 1 4 0\nO 3\nF 8 1 60 1 0", 0);
        alone("a label in its place", "M 1 1 80\nF 0 1 1 4 0", 1);
        alone("the same length and bytes by times", "M 1 1 80\nF 9 1 1 18 0", 1);
    }

    private static void alone(String how, String then, int want) {
        Run x = Check.withText(then);
        Check.due(how + ": maps", Check.read(x, "M 1 1 80\nF 9 1 1 4 0\nO 3"), 1);
        Check.due("differ(1): " + how, x.differ(1), want);
        Check.due("differ(2): " + how, x.differ(2), 0);
    }

    /** "fields of all maps at hand": 8 maps, and 30 fields of one. */
    private static void manyFields() {
        Run x = Check.withText("");
        StringBuilder text = new StringBuilder();
        for (int n = 1; n <= 8; n++) {
            text.append("M ").append(n).append(" 1 9\nF 1 1 1 1 0\nF 0 1 9 0 0\n");
        }
        Check.due("8 maps", Check.read(x, text.toString()), 8);
        Check.due("a field of each", x.differ(1), 8);
        StringBuilder fields = new StringBuilder("M 1 1 80\n");
        for (int i = 1; i <= 30; i++) {
            fields.append("F ").append(i).append(" 1 ").append(2 * i).append(" 1 0\n");
        }
        Check.due("a map of 30 fields", Check.read(x, fields.toString()), 1);
        Check.due("30 fields", x.differ(1), 30);
        Check.due("29 fields, for the first is as it was", x.differ(2), 29);
        Check.due("no maps at hand", Check.read(x, ""), 0);
        Check.due("no fields", x.differ(2), 0);
    }
}
