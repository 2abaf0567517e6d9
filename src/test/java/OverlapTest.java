/** Promise 5. */
public final class OverlapTest {
    public static void main(String[] args) {
        over("M 1 2 20\nF 1 1 1 4 0\nF 2 1 4 2 0", 0, 1);
        over("M 1 2 20\nF 1 1 1 4 0\nF 2 1 5 2 0", 0, 1);
        over("M 1 2 20\nF 0 2 1 4 0\nF 1 1 6 4 0\nF 2 1 11 4 0\nF 3 1 2 15 0", 1, 3);
        over("M 1 2 20\nF 1 1 11 4 0\nF 2 1 6 4 0\nF 3 1 2 15 0", 0, 2);
        over("M 3 1 9\nF 1 1 1 2 0\nF 2 1 4 1 0\nM 1 2 20\nF 1 1 1 4 0\nF 2 1 4 2 0", 0, 1);
        over("M 1 2 20\nF 1 1 7 2 0\nF 2 2 1 2 0\nF 3 1 1 2 0\nO 3", 0, 2);
        over("M 1 2 20\nF 1 1 1 2 0\nO 3\nF 2 1 9 2 0", 0, 1);
        // By the document's order lying over another field comes ahead of these two.
        over("M 1 2 20\nF 1 1 7 2 0\nF 0 1 1 2 0\nO 3", 0, 1);
        over("M 1 2 20\nF 1 1 7 2 0\nF 3 1 1 2 0\nO 2\nO 3", 0, 1);
        over("M 1 2 20\nF 1 1 1 2 0\nF 1 2 1 2 0", -1, -1);
        over("M 1 2 20\nF 1 1 1 2 0\nF 1 1 1 2 0", -1, -1);
        over("M 1 2 20\nF 1 1 1 2 0\nF 2 1 1 20 0", -1, -1);
        over("M 1 2 20\nF 1 1 18 2 0\nF 2 1 1 2 0\nO 7", -1, -1);
        over("M 1 2 20\nF 1 1 1 2 0\nF 2 1 1 2 16", -1, -1);
        overOfThirty();
        latestReadAlone();
        notWithSix();
        staysUntilTheNextRead();
        Check.end();
    }

    private static void over(String text, int earlier, int newer) {
        Run x = new Run();
        String shown = text.replace("\n", "|");
        Check.due("a fault in " + shown, Check.read(x, text) < 0 ? 1 : 0, 1);
        Check.due("overlap(0, 0) of " + shown, x.overlap(0, 0), earlier);
        Check.due("overlap(0, 1) of " + shown, x.overlap(0, 1), newer);
        int[] none = {-1, 1, 2, Integer.MAX_VALUE, Integer.MIN_VALUE};
        for (int i : none) {
            Check.due("overlap(" + i + ", 0)", x.overlap(i, 0), -1);
            Check.due("overlap(" + i + ", 1)", x.overlap(i, 1), -1);
        }
        Check.due("overlap(0, 2)", x.overlap(0, 2), -1);
        Check.due("overlap(0, -1)", x.overlap(0, -1), -1);
    }

    private static void overOfThirty() {
        StringBuilder text = new StringBuilder("M 1 1 80\n");
        for (int i = 0; i < 30; i++) {
            text.append("F 0 1 ").append(i + 1).append(" 0 0\n");
        }
        over(text + "F 0 1 30 3 0", 29, 30);
    }

    private static void latestReadAlone() {
        Run x = new Run();
        String over = "M 1 2 20\nF 1 1 1 4 0\nF 2 1 4 2 0";
        Check.read(x, over);
        Check.read(x, "Q");
        Check.due("overlap behind another fault", x.overlap(0, 0), -1);
        Check.read(x, over);
        Check.due("overlap", x.overlap(0, 1), 1);
        Check.read(x, "");
        Check.due("overlap behind an edition", x.overlap(0, 1), -1);
    }

    /** read() with six editions is NONE and nothing else, so it tells of no field over another. */
    private static void notWithSix() {
        Run x = new Run();
        for (int i = 1; i <= 5; i++) {
            x.read();
        }
        String over = "M 1 2 20\nF 1 1 1 4 0\nF 2 1 4 2 0";
        Check.due("a fault", Check.read(x, over), -4);
        Check.due("overlap(0, 1)", x.overlap(0, 1), 1);
        Check.due("the sixth", x.read(), 0);
        Check.due("overlap(0, 1) behind the sixth", x.overlap(0, 1), -1);
        Check.due("a seventh", Check.read(x, over), -1);
        Check.due("overlap(0, 0) behind a seventh", x.overlap(0, 0), -1);
        Check.due("overlap(0, 1) behind a seventh", x.overlap(0, 1), -1);
    }

    /** It stays until the next read(), whatever else is called. */
    private static void staysUntilTheNextRead() {
        Run x = Edges.busy();
        Check.read(x, "M 1 2 20\nF 0 1 9 4 0\nF 1 1 1 4 0\nF 2 1 4 2 0");
        Edges.answers(x);
        x.fill(50, 3, 1);
        x.take(50, 1);
        Check.put(x, "Q");
        Check.due("overlap(0, 0)", x.overlap(0, 0), 1);
        Check.due("overlap(0, 1)", x.overlap(0, 1), 2);
        x.read();
        Check.due("overlap(0, 0) behind read()", x.overlap(0, 0), -1);
        Check.due("overlap(0, 1) behind read()", x.overlap(0, 1), -1);
    }
}
