/** Promise 12. */
public final class ProgramTest {
    private static final String FIRST = "M 1 3 20\nF 0 3 1 2 0\nF 1 1 1 4 0\nF 2 1 6 2 0\nO 2\nM 2 1 9\nF 1 1 1 1 0\nM 3 1 1";

    public static void main(String[] args) {
        fits("the same", FIRST, 1, 1);
        fits("a field more at the end", "M 1 3 20\nF 1 1 1 4 0\nF 2 1 6 2 0\nO 2\nF 3 2 1 1 0", 1, -2);
        fits("a field more ahead", "M 1 3 20\nF 3 2 1 1 0\nF 1 1 1 4 0\nF 2 1 6 2 0\nO 2", 0, -2);
        fits("a label more ahead, moved on the screen", "M 1 3 20\nF 0 2 1 1 0\nF 1 1 2 4 15\nF 2 3 6 2 0\nO 2", 1, -2);
        fits("another length", "M 1 3 20\nF 1 1 1 4 0\nF 2 1 6 3 0\nO 2", 0, -2);
        fits("other times", "M 1 3 20\nF 1 1 1 4 0\nF 2 1 6 2 0\nO 3\nM 2 1 9\nF 1 1 1 1 0", 0, 1);
        fits("a field fewer", "M 1 3 20\nF 1 1 1 4 0\nM 2 1 9", 0, 0);
        fits("another name", "M 1 3 20\nF 1 1 1 4 0\nF 3 1 6 2 0\nO 2", 0, -2);
        fits("no maps", "", -2, -2);
        MapText x = Check.withText(FIRST);
        Check.read(x, "M 3 9 9\nF 1 1 1 1 0\nM 4 1 1");
        Check.due("a map without fields fits with any", x.program(3, 1), 1);
        Check.due("a map that wasn't there", x.program(4, 1), -2);
        Check.due("a map that is there now", x.program(4, 2), 1);
        int[] none = {0, 3, 7, -1, Integer.MAX_VALUE, Integer.MIN_VALUE};
        for (int number : none) {
            Check.due("program(3, " + number + ")", x.program(3, number), -2);
            Check.due("program(" + number + ", 2)", x.program(number, 2), number == 3 ? 1 : -2);
        }
        Check.end();
    }

    private static void fits(String how, String text, int first, int second) {
        MapText x = Check.withText(FIRST);
        Check.read(x, text);
        Check.due("program(1, 1): " + how, x.program(1, 1), first);
        Check.due("program(2, 1): " + how, x.program(2, 1), second);
        Check.due("program(1, 2) of the edition at hand: " + how, x.program(1, 2), first == -2 ? -2 : 1);
    }
}
