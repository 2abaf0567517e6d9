/** Promise 3: editions, lines, and every FAULT with its order. */
public final class ReadTest {
    private static final String MAP = "M 1 3 20\n";
    private static final String FIELD = MAP + "F 1 1 1 4 0\n";
    private static final String LABEL = MAP + "F 0 1 1 4 0\n";

    public static void main(String[] args) {
        editions();
        linesThatSayNothing();
        form();
        belonging();
        numbersOfMaps();
        numbersOfFields();
        numbersOfTheRest();
        alreadyThere();
        lyingOver();
        groups();
        labels();
        again();
        tooMany();
        firstOfFaults();
        nothingIsLeftOver();
        Check.end();
    }

    private static void editions() {
        MapText x = new MapText();
        Check.due("read() of nothing", x.read(), 0);
        Check.due("maps", Check.read(x, "M 1 1 1\nM 99 24 80"), 2);
        Check.due("told(2)", x.told(2), 2);
        Check.due("told(3)", x.told(3), 2);
        Check.due("a fault", Check.read(x, "M 1 1 1\n\nQ"), -4);
        Check.due("told(2) behind a fault", x.told(2), 2);
        Check.due("the edition at hand stays", x.screen(99, 24, 80), 32);
        Check.due("the text is empty", x.told(4), 0);
        for (int i = 3; i <= 6; i++) {
            Check.due("edition " + i, Check.read(x, "M " + i + " 1 1\n"), 1);
        }
        Check.due("a seventh", Check.read(x, "M 7 1 1"), -1);
        Check.due("the text is empty then, too", x.told(4), 0);
        Check.due("told(2)", x.told(2), 6);
        Check.due("the sixth is at hand", x.screen(6, 1, 1), 32);
        Check.due("a fault behind the sixth", Check.read(x, "Q"), -1);
        Check.due("nothing else happens", x.told(0), 0);
        Check.due("nothing else happens", x.told(1), 0);
    }

    private static void linesThatSayNothing() {
        Check.noFault("");
        Check.noFault("\n\n   \n*\n  * F 1 1\n*M 1\n");
        Check.noFault("   M   1  3   20   \n\n F 1 1 1 4 0  \n  C  \n  I AB\n O  2 ");
        Check.noFault("M 001 03 020");
        MapText x = new MapText();
        Check.due("lines are counted with those that say nothing", Check.read(x, "\n * \nM 1 1 1\n   \nX\n\n"), -6);
        Check.due("told(1)", x.told(1), 5);
    }

    private static void form() {
        String[] wrong = {"Q", "m 1 1 1", "MM 1 1 1", "M", "M 1", "M 1 1", "M 1 1 1 1", "M1 1 1", "M 1 1 1.",
            "M 1 -1 1", "M 1 1 0001", "M 1 1 1000", "M,1,1,1", "1", "M 1 1 1 *", "~", "M 1 1 1 1 1 1 1 1 1"};
        for (String line : wrong) {
            Check.faultInLastLine(line, 1);
        }
        String[] wrongOfFields = {"F 2 2 1 1", "F 2 2 1 1 0 0", "F 2 2 1 1 0 0 0", "F", "F2 2 1 1 0", "O", "O 1 1",
            "G", "G 1 1", "P 0 0", "P 0 0 0 0", "P", "V", "V 1 1", "C 1", "CC", "C,", "I", "I ", "  I ", "IAB", "I\tA",
            "I ABCDE", "I" + " ".repeat(6), "I     A", "i A", "O 0002", "V A"};
        for (String line : wrongOfFields) {
            // A tab is no sign of a text, so the line that has one comes as IA.
            Check.faultInLastLine(FIELD + line, 1);
        }
        Check.faultInLastLine(MAP + "F 0 1 1 0 0\nI A", 1);
        Check.noFault(FIELD + "I ABCD");
        Check.noFault(FIELD + "I" + " ".repeat(5));
        Check.noFault(FIELD + "I *~!A");
    }

    private static void belonging() {
        Check.faultInLastLine("F 1 1 1 1 0", 2);
        String[] ofField = {"O 1", "G 1", "P 0 0 0", "V 1", "C", "I A"};
        for (String line : ofField) {
            Check.faultInLastLine(line, 2);
            Check.faultInLastLine(MAP + line, 2);
            Check.faultInLastLine(FIELD + "M 2 3 20\n" + line, 2);
            Check.noFault(FIELD + line);
        }
        Check.faultInLastLine(FIELD + "M 2 3 20\nI " + "A".repeat(81), 2);
    }

    private static void numbersOfMaps() {
        String[] wrong = {"M 0 1 1", "M 100 1 1", "M 1 0 1", "M 1 25 1", "M 1 1 0", "M 1 1 81", "M 999 999 999"};
        for (String line : wrong) {
            Check.faultInLastLine(line, 3);
        }
        Check.noFault("M 1 1 1\nM 99 24 80");
    }

    private static void numbersOfFields() {
        String[] wrong = {"F 100 1 1 4 0", "F 1 0 1 4 0", "F 1 4 1 4 0", "F 1 1 0 4 0", "F 1 1 21 4 0",
            "F 1 1 1 0 0", "F 1 1 1 81 0", "F 1 1 1 4 16", "F 0 1 1 81 0", "F 0 1 21 0 0", "F 0 1 1 0 16"};
        for (String line : wrong) {
            Check.faultInLastLine(MAP + line, 3);
        }
        Check.noFault(MAP + "F 99 3 1 19 15\nF 0 1 20 0 0\nF 0 1 1 0 15");
        // The latest map's rows and columns count, not the first one's.
        Check.faultInLastLine("M 1 9 30\nM 2 1 5\nF 1 2 1 1 0", 3);
        Check.faultInLastLine("M 1 9 30\nM 2 1 5\nF 1 1 6 1 0", 3);
        Check.noFault("M 2 1 5\nM 1 9 30\nF 1 9 28 1 0");
    }

    private static void numbersOfTheRest() {
        String[] wrong = {"O 0", "O 21", "G 0", "G 100", "P 4 0 0", "P 10 0 0", "P 0 2 0", "P 0 0 2", "V 0", "V 4"};
        for (String line : wrong) {
            Check.faultInLastLine(FIELD + line, 3);
        }
        String[] fine = {"O 1", "O 4", "G 1", "G 99", "P 3 1 1", "P 0 0 0", "V 1", "V 2", "V 3"};
        for (String line : fine) {
            Check.noFault(FIELD + line);
        }
        Check.noFault("M 1 1 40\nF 1 1 1 1 0\nO 20");
        Check.noFault("M 1 1 40\nF 1 1 1 11 0\nP 9 0 0");
        Check.faultInLastLine("M 1 1 40\nF 1 1 1 11 0\nP 10 0 0", 3);
    }

    private static void alreadyThere() {
        Check.faultInLastLine("M 1 1 1\nM 2 1 1\nM 1 3 3", 4);
        Check.faultInLastLine(FIELD + "F 1 2 1 4 0", 4);
        Check.noFault(FIELD + "M 2 3 20\nF 1 1 1 4 0");
        Check.noFault(LABEL + "F 0 2 1 4 0");
    }

    private static void lyingOver() {
        Check.noFault(MAP + "F 1 1 16 4 0");
        Check.faultInLastLine(MAP + "F 1 1 17 4 0", 4);
        Check.faultInLastLine(MAP + "F 1 1 1 20 0", 4);
        Check.faultInLastLine("M 1 1 80\nF 1 1 1 80 0", 4);
        Check.noFault("M 1 1 80\nF 1 1 1 79 0");
        Check.noFault(FIELD + "O 4");
        Check.faultInLastLine(FIELD + "O 5", 4);
        Check.noFault(FIELD + "F 2 1 6 4 0");
        Check.faultInLastLine(FIELD + "F 2 1 5 4 0", 4);
        Check.noFault(MAP + "F 1 1 6 4 0\nF 2 1 1 4 0");
        Check.faultInLastLine(MAP + "F 1 1 6 4 0\nF 2 1 1 5 0", 4);
        Check.noFault(FIELD + "F 2 2 1 4 0");
        Check.faultInLastLine(FIELD + "O 2\nF 2 1 10 4 0", 4);
        Check.noFault(FIELD + "O 2\nF 2 1 11 4 0");
        Check.faultInLastLine(MAP + "F 1 1 11 4 0\nF 2 1 1 4 0\nO 3", 4);
        Check.noFault(MAP + "F 1 1 11 4 0\nF 2 1 1 4 0\nO 2");
        Check.faultInLastLine(MAP + "F 0 1 5 0 0\nF 2 1 1 4 0", 4);
        Check.faultInLastLine(MAP + "F 1 1 1 10 0\nF 2 1 5 2 0", 4);
        Check.faultInLastLine(MAP + "F 1 1 5 2 0\nF 2 1 1 10 0", 4);
    }

    private static void groups() {
        String grouped = FIELD + "G 7\n";
        Check.noFault(grouped + "F 2 1 6 2 0\nG 7\nF 3 1 9 2 0\nG 7");
        Check.noFault(FIELD + "G 7\nO 2\nF 2 1 11 2 0\nG 7");
        Check.faultInLastLine(FIELD + "G 7\nO 2\nF 2 1 12 2 0\nG 7", 4);
        Check.faultInLastLine(grouped + "F 2 1 7 2 0\nG 7", 4);
        Check.faultInLastLine(grouped + "F 2 2 6 2 0\nG 7", 4);
        Check.noFault(grouped + "F 2 2 6 2 0\nG 8");
        Check.faultInLastLine(grouped + "F 2 1 6 2 0\nF 3 1 9 2 0\nG 7", 4);
        Check.faultInLastLine(grouped + "F 2 1 6 2 0\nG 7\nF 3 2 1 2 0\nG 7", 4);
        Check.faultInLastLine(MAP + "F 1 1 6 4 0\nG 7\nF 2 1 1 4 0\nG 7", 4);
        Check.noFault(grouped + "M 2 3 20\nF 1 2 9 1 0\nG 7");
    }

    private static void labels() {
        String[] wrong = {"O 1", "O 2", "G 1", "P 0 0 0", "V 1"};
        for (String line : wrong) {
            Check.faultInLastLine(LABEL + line, 4);
        }
        Check.noFault(LABEL + "C\nI ABCD");
        Check.faultInLastLine(MAP + "F 0 1 1 0 0\nP 0 0 0", 3);
        Check.faultInLastLine(LABEL + "O 21", 3);
    }

    private static void again() {
        String[] lines = {"O 1", "G 1", "P 0 0 0", "V 1", "C", "I A"};
        for (String line : lines) {
            Check.faultInLastLine(FIELD + line + "\n" + line, 4);
        }
        Check.faultInLastLine(FIELD + "O 2\nC\nO 1", 4);
        Check.faultInLastLine(FIELD + "G 1\nG 2", 4);
        Check.faultInLastLine(FIELD + "C\nF 2 2 1 1 0\nC", 4);
        Check.noFault(FIELD + "C\nM 2 3 20\nF 2 2 1 1 0\nC");
        Check.noFault(FIELD + "I A\nO 2\nG 3\nV 1\nC\nP 1 1 1\nF 2 2 1 4 0\nP 1 1 1\nV 1\nG 4\nO 2\nI A");
        Check.faultInLastLine(LABEL + "I A\nI A", 4);
    }

    private static void tooMany() {
        StringBuilder maps = new StringBuilder();
        for (int n = 1; n <= 8; n++) {
            maps.append("M ").append(n).append(" 1 1\n");
        }
        Check.noFault(maps.toString());
        Check.faultInLastLine(maps + "M 9 1 1", 5);
        Check.faultInLastLine(maps + "M 8 1 1", 4);
        Check.faultInLastLine(maps + "M 9 1 81", 3);
        StringBuilder fields = new StringBuilder("M 1 3 80\n");
        for (int i = 0; i < 30; i++) {
            fields.append("F ").append(i % 2 * (i + 1)).append(" 1 ").append(1 + 2 * i).append(" 1 0\n");
        }
        Check.noFault(fields.toString());
        Check.faultInLastLine(fields + "F 50 2 1 1 0", 5);
        Check.faultInLastLine(fields + "F 0 2 1 1 0", 5);
        Check.faultInLastLine(fields + "F 50 1 1 1 0", 4);
        Check.noFault(fields + "M 2 1 9\nF 1 1 1 1 0");
    }

    private static void firstOfFaults() {
        Check.faultInLastLine("F 1 1 1 1", 1);
        Check.faultInLastLine("F 100 1 1 1 0", 2);
        Check.faultInLastLine(MAP + "O 21", 2);
        Check.faultInLastLine(FIELD + "F 1 1 1 4 16", 3);
        Check.faultInLastLine(FIELD + "O 2\nO 21", 3);
        Check.faultInLastLine(FIELD + "I A\nI ABCDE", 1);
        MapText x = new MapText();
        Check.due("the first line of two with faults", Check.read(x, "M 1 1 1\nF 1 1 1 9 0\nQ"), -3);
        Check.due("its fault", x.told(0), 4);
    }

    private static void nothingIsLeftOver() {
        MapText x = new MapText();
        Check.read(x, FIELD + "Q");
        Check.due("no map of the text before", Check.read(x, "F 2 2 1 1 0"), -2);
        Check.due("its fault", x.told(0), 2);
        Check.read(x, FIELD);
        Check.due("no field of the text before", Check.read(x, "I ABCDE"), -2);
        Check.due("its fault", x.told(0), 2);
        Check.due("the same map again", Check.read(x, FIELD), 1);
    }
}
