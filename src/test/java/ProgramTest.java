/** Promise 12. */
public final class ProgramTest {
    private static final String FIRST = "M 1 3 20\nF 0 3 1 2 0\nF 1 1 1 4 0\nF 2 1 6 2 0\nO 2\nM 2 1 9\nF 1 1 1 1 0\nM 3 1 1";

    public static void main(String[] args) {
        fits("the same", FIRST, 1, 1);
        fits("a field more at the end", "M 1 3 20\nF 1 1 1 4 0\nF 2 1 6 2 0\nO 2\nF 3 2 1 1 0", 1, -2);
        fits("a field more ahead", "M 1 3 20\nF 3 2 1 1 0\nF 1 1 1 4 0\nF 2 1 6 2 0\nO 2", 0, -2);
        fits("a label more ahead, moved on the screen", "M 1 3 20\nF 0 2 1 1 0\nF 1 1 2 4 15\nF 2 3 6 2 0\nO 2", 1, -2);
        fits("another length", "M 1 3 20\nF 1 1 1 4 0\nF 2 1 6 3 0\nO 2", 0, -2);
        fits("other times", "M 1 3 20\nF 1 1 1 4 0\nF 2 1 6 2 0\nO 3\nM 2 1 9\nF 1 1 1 1 0", 0, 1);
        fits("a field fewer", "M 1 3 20\nF 1 1 1 4 0\nM 2 1 9", 0, 0);
        fits("another name", "M 1 3 20\nF 1 1 1 4 0\nF 3 1 6 2 0\nO 2", 0, -2);
        fits("no maps", "", -2, -2);
        mapsThatCameOrWent();
        eachAlone();
        noSuchEdition();
        Check.end();
    }

    private static void fits(String how, String text, int first, int second) {
        Run x = Check.withText(FIRST);
        Check.read(x, text);
        Check.due("program(1, 1): " + how, x.program(1, 1), first);
        Check.due("program(2, 1): " + how, x.program(2, 1), second);
        Check.due("program(1, 2) of the edition at hand: " + how, x.program(1, 2), first == -2 ? -2 : 1);
    }

    private static void mapsThatCameOrWent() {
        Run x = Check.withText(FIRST);
        Check.read(x, "M 3 9 9\nF 1 1 1 1 0\nM 4 1 1");
        Check.due("a map without fields fits with any", x.program(3, 1), 1);
        Check.due("a map that wasn't there", x.program(4, 1), -2);
        Check.due("a map that is there now", x.program(4, 2), 1);
        int[] none = {0, 3, 7, -1, Integer.MAX_VALUE, Integer.MIN_VALUE};
        for (int number : none) {
            Check.due("program(3, " + number + ")", x.program(3, number), -2);
            Check.due("program(" + number + ", 2)", x.program(number, 2), number == 3 ? 1 : -2);
        }
    }

    /** "all fields that were there are where they were, as long, as often": one bound of each. */
    private static void eachAlone() {
        alone("as it was", "F 1 1 1 4 0\nO 3\nF 2 1 40 1 0", 1);
        alone("shorter by one", "F 1 1 1 3 0\nO 3\nF 2 1 40 1 0", 0);
        alone("longer by one", "F 1 1 1 5 0\nO 3\nF 2 1 40 1 0", 0);
        alone("one time fewer", "F 1 1 1 4 0\nO 2\nF 2 1 40 1 0", 0);
        alone("one time more", "F 1 1 1 4 0\nO 4\nF 2 1 40 1 0", 0);
        alone("the last one longer", "F 1 1 1 4 0\nO 3\nF 2 1 40 2 0", 0);
        alone("the last one twice", "F 1 1 1 4 0\nO 3\nF 2 1 40 1 0\nO 2", 0);
        alone("the last one gone", "F 1 1 1 4 0\nO 3", 0);
        alone("one more between", "F 1 1 1 4 0\nO 3\nF 3 1 50 1 0\nF 2 1 40 1 0", 0);
        alone("one more at the end", "F 1 1 1 4 0\nO 3\nF 2 1 40 1 0\nF 3 1 50 1 0", 1);
        alone("a label between", "F 1 1 1 4 0\nO 3\nF 0 1 50 1 0\nF 2 1 40 1 0", 1);
        alone("elsewhere on the screen", "F 1 1 4 4 15\nO 3\nF 2 2 1 1 1", 1);
        alone("as many bytes, but other times", "F 1 1 1 18 0\nF 2 1 40 1 0", 0);
    }

    private static void alone(String how, String fields, int want) {
        Run x = Check.withText("M 1 2 80\nF 1 1 1 4 0\nO 3\nF 2 1 40 1 0");
        Check.due(how + ": maps", Check.read(x, "M 1 2 80\n" + fields), 1);
        Check.due("program(1, 1): " + how, x.program(1, 1), want);
        Check.due("program(1, 2): " + how, x.program(1, 2), 1);
    }

    /** "-2 no such edition": 0, and one more than there are, for each count of editions. */
    private static void noSuchEdition() {
        Run x = new Run();
        int[] none = {0, -1, 7, Integer.MAX_VALUE, Integer.MIN_VALUE};
        for (int count = 0; count <= 6; count++) {
            for (int edition : none) {
                Check.due("program(1, " + edition + ") of " + count, x.program(1, edition), -2);
            }
            for (int edition = 1; edition <= 6; edition++) {
                int due = edition > count ? -2 : edition == count ? 1 : 0;
                Check.due("program(1, " + edition + ") of " + count, x.program(1, edition), due);
                Check.due("program(2, " + edition + ") of " + count, x.program(2, edition), -2);
            }
            Check.read(x, "Q");
            Check.read(x, "M 1 1 9\nF 1 1 1 " + (count + 1) + " 0");
        }
        Check.due("a seventh makes none", x.program(1, 7), -2);
    }
}
